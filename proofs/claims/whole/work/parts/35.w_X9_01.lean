abbrev s_X9_folds_221 (γ : rG) (l : Launch) (x0 : Nat) (x1 : Int32) (x2 : Int32) (x3 : Int32) (x4 : Int32) (x5 : Int32) (x6 : Int32) (x7 : Int32) (x8 : Int32) (x9 : Int32) (x11 : Int32) (x12 : Int32) (s0 : Int32) (h : rHeap) (Q : rHeap → Option Value → Prop) : Prop := rW γ l m_X9_folds 0 0 221 [some (.ref x0), some (.int x1), some (.int x2), some (.int x3), some (.int x4), some (.int x5), some (.int x6), some (.int x7), some (.int x8), some (.int x9), none, some (.int x11), some (.int x12), none, none, none] [.int s0] h Q
theorem w_X9_folds_221 {γ : rG} {l : Launch} {Q : rHeap → Option Value → Prop} {sh : Nat × (Nat → Nat) × (Nat → Nat)} {I : Nat → Nat → Int32} {J : Nat → Nat → Int64} {R : Nat → Nat → Option Nat} {x0 : Nat} {x1 : Int32} {x2 : Int32} {x3 : Int32} {x4 : Int32} {x5 : Int32} {x6 : Int32} {x7 : Int32} {x8 : Int32} {x9 : Int32} {x11 : Int32} {x12 : Int32} {s0 : Int32}
    (h_x0 : At9 sh R x0)
    (t : (x5 = 0 → (rW γ l m_X9_folds 0 0 261 [some (.ref x0), some (.int x1), some (.int x2), some (.int x3), some (.int x4), some (.int x5), some (.int x6), some (.int x7), some (.int x8), some (.int x9), none, some (.int x11), some (.int x12), none, none, none] [.int s0] (sh, I, J, R) Q)) ∧ (¬ x5 = 0 → ((x5 = (1 : Int32) → (rW γ l m_X9_folds 0 0 261 [some (.ref x0), some (.int x1), some (.int x2), some (.int x3), some (.int x4), some (.int x5), some (.int x6), some (.int x7), some (.int x8), some (.int x9), none, some (.int x11), some (.int x12), none, none, none] [.int (0 : Int32)] (sh, I, J, R) Q)) ∧ (¬ x5 = (1 : Int32) → ((s0 ≤ (x5 - (2 : Int32)) → (rW γ l m_X9_folds 0 0 261 [some (.ref x0), some (.int x1), some (.int x2), some (.int x3), some (.int x4), some (.int x5), some (.int x6), some (.int x7), some (.int x8), some (.int x9), none, some (.int x11), some (.int x12), none, none, none] [.int s0] (sh, I, J, R) Q)) ∧ (¬ s0 ≤ (x5 - (2 : Int32)) → (rW γ l m_X9_folds 0 0 261 [some (.ref x0), some (.int x1), some (.int x2), some (.int x3), some (.int x4), some (.int x5), some (.int x6), some (.int x7), some (.int x8), some (.int x9), none, some (.int x11), some (.int x12), none, none, none] [.int (x5 - (2 : Int32))] (sh, I, J, R) Q))))))) :
    rW γ l m_X9_folds 0 0 221 [some (.ref x0), some (.int x1), some (.int x2), some (.int x3), some (.int x4), some (.int x5), some (.int x6), some (.int x7), some (.int x8), some (.int x9), none, some (.int x11), some (.int x12), none, none, none] [.int s0] (sh, I, J, R) Q := by
  by_cases p0 : x5 = 0
  · have t := t.1 p0
    obtain ⟨hf, r, t, q⟩ := t
    exact ⟨hf, r, b_X9_folds_221  h_x0 (fun y0 _ _ => absurd p0 y0) (fun y0 _ _ => absurd p0 y0) (fun y0 _ => absurd p0 y0) (fun _ => t), q⟩
  · have t := t.2 p0
    by_cases p1 : x5 = (1 : Int32)
    · have t := t.1 p1
      obtain ⟨hf, r, t, q⟩ := t
      exact ⟨hf, r, b_X9_folds_221  h_x0 (fun _ y1 _ => absurd p1 y1) (fun _ y1 _ => absurd p1 y1) (fun _ _ => t) (fun y0 => absurd y0 p0), q⟩
    · have t := t.2 p1
      by_cases p2 : s0 ≤ (x5 - (2 : Int32))
      · have t := t.1 p2
        obtain ⟨hf, r, t, q⟩ := t
        exact ⟨hf, r, b_X9_folds_221  h_x0 (fun _ _ _ => t) (fun _ _ y2 => absurd p2 y2) (fun _ y1 => absurd y1 p1) (fun y0 => absurd y0 p0), q⟩
      · have t := t.2 p2
        obtain ⟨hf, r, t, q⟩ := t
        exact ⟨hf, r, b_X9_folds_221  h_x0 (fun _ _ y2 => absurd y2 p2) (fun _ _ _ => t) (fun _ y1 => absurd y1 p1) (fun y0 => absurd y0 p0), q⟩
abbrev s_X9_folds_106 (γ : rG) (l : Launch) (x0 : Nat) (x1 : Int32) (x2 : Int32) (x3 : Int32) (x4 : Int32) (x5 : Int32) (x6 : Int32) (x7 : Int32) (s0 : Int32) (s1 : Int32) (s2 : Nat) (h : rHeap) (Q : rHeap → Option Value → Prop) : Prop := rW γ l m_X9_folds 0 0 106 [some (.ref x0), some (.int x1), some (.int x2), some (.int x3), some (.int x4), some (.int x5), some (.int x6), some (.int x7), none, none, none, none, none, none, none, none] [.int s0, .int s1, .ref s2] h Q
theorem w_X9_folds_106 {γ : rG} {l : Launch} {Q : rHeap → Option Value → Prop} {sh : Nat × (Nat → Nat) × (Nat → Nat)} {I : Nat → Nat → Int32} {J : Nat → Nat → Int64} {R : Nat → Nat → Option Nat} {x0 : Nat} {x1 : Int32} {x2 : Int32} {x3 : Int32} {x4 : Int32} {x5 : Int32} {x6 : Int32} {x7 : Int32} {s0 : Int32} {s1 : Int32} {s2 : Nat} {n_s2 : Nat}
    (h_x0 : At9 sh R x0)
    (h_s2 : rK sh s2 13)
    (g_s2 : sh.2.2 s2 = n_s2)
    (t : vp_in s1 n_s2 ∧ (vp_in ((((8 : Int32) * x2) + x7)) 176 ∧ ((x6 ≤ ((up I s2 s1.toNatClampNeg (vp_nar .boolean s0)) (x0 + 26) ((((8 : Int32) * x2) + x7)).toNatClampNeg) → (rW γ l m_X9_folds 0 0 8 [some (.ref x0), some (.int x1), some (.int x2), some (.int x3), some (.int x4), some (.int x5), some (.int x6), some (.int (x7 + (1 : Int32))), none, none, none, none, none, none, none, none] [] (sh, (up I s2 s1.toNatClampNeg (vp_nar .boolean s0)), J, R) Q)) ∧ (¬ x6 ≤ ((up I s2 s1.toNatClampNeg (vp_nar .boolean s0)) (x0 + 26) ((((8 : Int32) * x2) + x7)).toNatClampNeg) → (vp_in ((((8 : Int32) * x2) + x7)) 176 ∧ (rW γ l m_X9_folds 0 0 8 [some (.ref x0), some (.int x1), some (.int x2), some (.int x3), some (.int x4), some (.int x5), some (.int ((up I s2 s1.toNatClampNeg (vp_nar .boolean s0)) (x0 + 26) ((((8 : Int32) * x2) + x7)).toNatClampNeg)), some (.int (x7 + (1 : Int32))), none, none, none, none, none, none, none, none] [] (sh, (up I s2 s1.toNatClampNeg (vp_nar .boolean s0)), J, R) Q)))))) :
    rW γ l m_X9_folds 0 0 106 [some (.ref x0), some (.int x1), some (.int x2), some (.int x3), some (.int x4), some (.int x5), some (.int x6), some (.int x7), none, none, none, none, none, none, none, none] [.int s0, .int s1, .ref s2] (sh, I, J, R) Q := by
  obtain ⟨b1, t⟩ := t
  obtain ⟨b2, t⟩ := t
  by_cases p0 : x6 ≤ ((up I s2 s1.toNatClampNeg (vp_nar .boolean s0)) (x0 + 26) ((((8 : Int32) * x2) + x7)).toNatClampNeg)
  · have t := t.1 p0
    obtain ⟨hf, r, t, q⟩ := t
    exact ⟨hf, r, b_X9_folds_106  h_x0 h_s2 g_s2 b1 b2 (fun _ => t) (fun y0 => absurd p0 y0) (fun y0 => absurd p0 y0), q⟩
  · have t := t.2 p0
    obtain ⟨b5, t⟩ := t
    obtain ⟨hf, r, t, q⟩ := t
    exact ⟨hf, r, b_X9_folds_106  h_x0 h_s2 g_s2 b1 b2 (fun y0 => absurd y0 p0) (fun _ => b5) (fun _ => t), q⟩
abbrev s_X9_folds_261 (γ : rG) (l : Launch) (x0 : Nat) (x1 : Int32) (x2 : Int32) (x3 : Int32) (x4 : Int32) (x5 : Int32) (x6 : Int32) (x7 : Int32) (x8 : Int32) (x9 : Int32) (x11 : Int32) (x12 : Int32) (s0 : Int32) (h : rHeap) (Q : rHeap → Option Value → Prop) : Prop := rW γ l m_X9_folds 0 0 261 [some (.ref x0), some (.int x1), some (.int x2), some (.int x3), some (.int x4), some (.int x5), some (.int x6), some (.int x7), some (.int x8), some (.int x9), none, some (.int x11), some (.int x12), none, none, none] [.int s0] h Q
theorem w_X9_folds_261 {γ : rG} {l : Launch} {Q : rHeap → Option Value → Prop} {sh : Nat × (Nat → Nat) × (Nat → Nat)} {I : Nat → Nat → Int32} {J : Nat → Nat → Int64} {R : Nat → Nat → Option Nat} {x0 : Nat} {x1 : Int32} {x2 : Int32} {x3 : Int32} {x4 : Int32} {x5 : Int32} {x6 : Int32} {x7 : Int32} {x8 : Int32} {x9 : Int32} {x11 : Int32} {x12 : Int32} {s0 : Int32}
    (h_x0 : At9 sh R x0)
    (t : vp_in ((((8 : Int32) * x1) + x8)) 176 ∧ ((x9 = 0 → ((s0 ≤ (I (x0 + 27) ((((8 : Int32) * x1) + x8)).toNatClampNeg) → (rW γ l m_X9_folds 0 0 323 [some (.ref x0), some (.int x1), some (.int x2), some (.int x3), some (.int x4), some (.int x5), some (.int x6), some (.int x7), some (.int x8), none, none, none, none, none, none, none] [.int ((I (x0 + 27) ((((8 : Int32) * x1) + x8)).toNatClampNeg) + x11), .int (((8 : Int32) * x2) + x8), .ref (x0 + 27)] (sh, I, J, R) Q)) ∧ (¬ s0 ≤ (I (x0 + 27) ((((8 : Int32) * x1) + x8)).toNatClampNeg) → (rW γ l m_X9_folds 0 0 323 [some (.ref x0), some (.int x1), some (.int x2), some (.int x3), some (.int x4), some (.int x5), some (.int x6), some (.int x7), some (.int x8), none, none, none, none, none, none, none] [.int (I (x0 + 27) ((((8 : Int32) * x1) + x8)).toNatClampNeg), .int (((8 : Int32) * x2) + x8), .ref (x0 + 27)] (sh, I, J, R) Q)))) ∧ (¬ x9 = 0 → (rW γ l m_X9_folds 0 0 323 [some (.ref x0), some (.int x1), some (.int x2), some (.int x3), some (.int x4), some (.int x5), some (.int x6), some (.int x7), some (.int x8), none, none, none, none, none, none, none] [.int (((s0 + x12) - (1 : Int32)) - (I (x0 + 27) ((((8 : Int32) * x1) + x8)).toNatClampNeg)), .int (((8 : Int32) * x2) + x8), .ref (x0 + 27)] (sh, I, J, R) Q)))) :
    rW γ l m_X9_folds 0 0 261 [some (.ref x0), some (.int x1), some (.int x2), some (.int x3), some (.int x4), some (.int x5), some (.int x6), some (.int x7), some (.int x8), some (.int x9), none, some (.int x11), some (.int x12), none, none, none] [.int s0] (sh, I, J, R) Q := by
  obtain ⟨b1, t⟩ := t
  by_cases p0 : x9 = 0
  · have t := t.1 p0
    by_cases p1 : s0 ≤ (I (x0 + 27) ((((8 : Int32) * x1) + x8)).toNatClampNeg)
    · have t := t.1 p1
      obtain ⟨hf, r, t, q⟩ := t
      exact ⟨hf, r, b_X9_folds_261  h_x0 b1 (fun _ _ => t) (fun _ y1 => absurd p1 y1) (fun y0 => absurd p0 y0), q⟩
    · have t := t.2 p1
      obtain ⟨hf, r, t, q⟩ := t
      exact ⟨hf, r, b_X9_folds_261  h_x0 b1 (fun _ y1 => absurd y1 p1) (fun _ _ => t) (fun y0 => absurd p0 y0), q⟩
  · have t := t.2 p0
    obtain ⟨hf, r, t, q⟩ := t
    exact ⟨hf, r, b_X9_folds_261  h_x0 b1 (fun y0 _ => absurd y0 p0) (fun y0 _ => absurd y0 p0) (fun _ => t), q⟩
abbrev s_X9_folds_323 (γ : rG) (l : Launch) (x0 : Nat) (x1 : Int32) (x2 : Int32) (x3 : Int32) (x4 : Int32) (x5 : Int32) (x6 : Int32) (x7 : Int32) (x8 : Int32) (s0 : Int32) (s1 : Int32) (s2 : Nat) (h : rHeap) (Q : rHeap → Option Value → Prop) : Prop := rW γ l m_X9_folds 0 0 323 [some (.ref x0), some (.int x1), some (.int x2), some (.int x3), some (.int x4), some (.int x5), some (.int x6), some (.int x7), some (.int x8), none, none, none, none, none, none, none] [.int s0, .int s1, .ref s2] h Q
theorem w_X9_folds_323 {γ : rG} {l : Launch} {Q : rHeap → Option Value → Prop} {sh : Nat × (Nat → Nat) × (Nat → Nat)} {I : Nat → Nat → Int32} {J : Nat → Nat → Int64} {R : Nat → Nat → Option Nat} {x0 : Nat} {x1 : Int32} {x2 : Int32} {x3 : Int32} {x4 : Int32} {x5 : Int32} {x6 : Int32} {x7 : Int32} {x8 : Int32} {s0 : Int32} {s1 : Int32} {s2 : Nat} {n_s2 : Nat}
    (h_x0 : At9 sh R x0)
    (h_s2 : rK sh s2 11)
    (g_s2 : sh.2.2 s2 = n_s2)
    (t : vp_in s1 n_s2 ∧ (vp_in ((((8 : Int32) * x2) + x8)) 176 ∧ (vp_in ((((8 : Int32) * x2) + x8)) 176 ∧ (vp_in ((((8 : Int32) * x2) + x8)) 176 ∧ ((((up (up I s2 s1.toNatClampNeg s0) (x0 + 26) ((((8 : Int32) * x2) + x8)).toNatClampNeg ((((up I s2 s1.toNatClampNeg s0) (x0 + 26) ((((8 : Int32) * x2) + x8)).toNatClampNeg) - x6))) (x0 + 26) ((((8 : Int32) * x2) + x8)).toNatClampNeg) ≤ x7 → (rW γ l m_X9_folds 0 0 150 [some (.ref x0), some (.int x1), some (.int x2), some (.int x3), some (.int x4), some (.int x5), some (.int x6), some (.int x7), some (.int (x8 + (1 : Int32))), none, none, none, none, none, none, none] [] (sh, (up (up I s2 s1.toNatClampNeg s0) (x0 + 26) ((((8 : Int32) * x2) + x8)).toNatClampNeg ((((up I s2 s1.toNatClampNeg s0) (x0 + 26) ((((8 : Int32) * x2) + x8)).toNatClampNeg) - x6))), J, R) Q)) ∧ (¬ ((up (up I s2 s1.toNatClampNeg s0) (x0 + 26) ((((8 : Int32) * x2) + x8)).toNatClampNeg ((((up I s2 s1.toNatClampNeg s0) (x0 + 26) ((((8 : Int32) * x2) + x8)).toNatClampNeg) - x6))) (x0 + 26) ((((8 : Int32) * x2) + x8)).toNatClampNeg) ≤ x7 → (vp_in ((((8 : Int32) * x2) + x8)) 176 ∧ (rW γ l m_X9_folds 0 0 150 [some (.ref x0), some (.int x1), some (.int x2), some (.int x3), some (.int x4), some (.int x5), some (.int x6), some (.int ((up (up I s2 s1.toNatClampNeg s0) (x0 + 26) ((((8 : Int32) * x2) + x8)).toNatClampNeg ((((up I s2 s1.toNatClampNeg s0) (x0 + 26) ((((8 : Int32) * x2) + x8)).toNatClampNeg) - x6))) (x0 + 26) ((((8 : Int32) * x2) + x8)).toNatClampNeg)), some (.int (x8 + (1 : Int32))), none, none, none, none, none, none, none] [] (sh, (up (up I s2 s1.toNatClampNeg s0) (x0 + 26) ((((8 : Int32) * x2) + x8)).toNatClampNeg ((((up I s2 s1.toNatClampNeg s0) (x0 + 26) ((((8 : Int32) * x2) + x8)).toNatClampNeg) - x6))), J, R) Q)))))))) :
    rW γ l m_X9_folds 0 0 323 [some (.ref x0), some (.int x1), some (.int x2), some (.int x3), some (.int x4), some (.int x5), some (.int x6), some (.int x7), some (.int x8), none, none, none, none, none, none, none] [.int s0, .int s1, .ref s2] (sh, I, J, R) Q := by
  obtain ⟨b1, t⟩ := t
  obtain ⟨b2, t⟩ := t
  obtain ⟨b3, t⟩ := t
  obtain ⟨b4, t⟩ := t
  by_cases p0 : ((up (up I s2 s1.toNatClampNeg s0) (x0 + 26) ((((8 : Int32) * x2) + x8)).toNatClampNeg ((((up I s2 s1.toNatClampNeg s0) (x0 + 26) ((((8 : Int32) * x2) + x8)).toNatClampNeg) - x6))) (x0 + 26) ((((8 : Int32) * x2) + x8)).toNatClampNeg) ≤ x7
  · have t := t.1 p0
    obtain ⟨hf, r, t, q⟩ := t
    exact ⟨hf, r, b_X9_folds_323  h_x0 h_s2 g_s2 b1 b2 b3 b4 (fun _ => t) (fun y0 => absurd p0 y0) (fun y0 => absurd p0 y0), q⟩
  · have t := t.2 p0
    obtain ⟨b7, t⟩ := t
    obtain ⟨hf, r, t, q⟩ := t
    exact ⟨hf, r, b_X9_folds_323  h_x0 h_s2 g_s2 b1 b2 b3 b4 (fun y0 => absurd y0 p0) (fun _ => b7) (fun _ => t), q⟩
abbrev s_X9_isCrease_0 (γ : rG) (l : Launch) (x0 : Nat) (x1 : Int32) (x2 : Int32) (h : rHeap) (Q : rHeap → Option Value → Prop) : Prop := rW γ l m_X9_isCrease 0 0 0 [some (.ref x0), some (.int x1), some (.int x2)] [] h Q
theorem w_X9_isCrease_0 {γ : rG} {l : Launch} {Q : rHeap → Option Value → Prop} {sh : Nat × (Nat → Nat) × (Nat → Nat)} {I : Nat → Nat → Int32} {J : Nat → Nat → Int64} {R : Nat → Nat → Option Nat} {x0 : Nat} {x1 : Int32} {x2 : Int32}
    (h_x0 : At9 sh R x0)
    (t : (x2 < 0 → (Q (sh, I, J, R) (some (.int (0 : Int32))))) ∧ (¬ x2 < 0 → (((I x0 39) ≤ (x2 + (1 : Int32)) → (Q (sh, I, J, R) (some (.int (0 : Int32))))) ∧ (¬ (I x0 39) ≤ (x2 + (1 : Int32)) → (vp_in ((((8 : Int32) * x1) + x2)) 176 ∧ (vp_in (((((8 : Int32) * x1) + x2) + (1 : Int32))) 176 ∧ (((I (x0 + 26) ((((8 : Int32) * x1) + x2)).toNatClampNeg) = (I (x0 + 26) (((((8 : Int32) * x1) + x2) + (1 : Int32))).toNatClampNeg) → (Q (sh, I, J, R) (some (.int (1 : Int32))))) ∧ (¬ (I (x0 + 26) ((((8 : Int32) * x1) + x2)).toNatClampNeg) = (I (x0 + 26) (((((8 : Int32) * x1) + x2) + (1 : Int32))).toNatClampNeg) → (Q (sh, I, J, R) (some (.int (0 : Int32)))))))))))) :
    rW γ l m_X9_isCrease 0 0 0 [some (.ref x0), some (.int x1), some (.int x2)] [] (sh, I, J, R) Q := by
  by_cases p0 : x2 < 0
  · have t := t.1 p0
    exact ⟨_, _, b_X9_isCrease_0  h_x0 (fun _ => ⟨rfl, rfl⟩) (fun y0 _ => absurd p0 y0) (fun y0 _ => absurd p0 y0) (fun y0 _ => absurd p0 y0) (fun y0 _ _ => absurd p0 y0) (fun y0 _ _ => absurd p0 y0), t⟩
  · have t := t.2 p0
    by_cases p1 : (I x0 39) ≤ (x2 + (1 : Int32))
    · have t := t.1 p1
      exact ⟨_, _, b_X9_isCrease_0  h_x0 (fun y0 => absurd y0 p0) (fun _ _ => ⟨rfl, rfl⟩) (fun _ y1 => absurd p1 y1) (fun _ y1 => absurd p1 y1) (fun _ y1 _ => absurd p1 y1) (fun _ y1 _ => absurd p1 y1), t⟩
    · have t := t.2 p1
      obtain ⟨b5, t⟩ := t
      obtain ⟨b6, t⟩ := t
      by_cases p2 : (I (x0 + 26) ((((8 : Int32) * x1) + x2)).toNatClampNeg) = (I (x0 + 26) (((((8 : Int32) * x1) + x2) + (1 : Int32))).toNatClampNeg)
      · have t := t.1 p2
        exact ⟨_, _, b_X9_isCrease_0  h_x0 (fun y0 => absurd y0 p0) (fun _ y1 => absurd y1 p1) (fun _ _ => b5) (fun _ _ => b6) (fun _ _ y2 => absurd p2 y2) (fun _ _ _ => ⟨rfl, rfl⟩), t⟩
      · have t := t.2 p2
        exact ⟨_, _, b_X9_isCrease_0  h_x0 (fun y0 => absurd y0 p0) (fun _ y1 => absurd y1 p1) (fun _ _ => b5) (fun _ _ => b6) (fun _ _ _ => ⟨rfl, rfl⟩) (fun _ _ y2 => absurd y2 p2), t⟩
abbrev s_X9_isFlat_0 (γ : rG) (l : Launch) (x0 : Nat) (x1 : Int32) (x2 : Int32) (h : rHeap) (Q : rHeap → Option Value → Prop) : Prop := rW γ l m_X9_isFlat 0 0 0 [some (.ref x0), some (.int x1), some (.int x2)] [] h Q
theorem w_X9_isFlat_0 {γ : rG} {l : Launch} {Q : rHeap → Option Value → Prop} {sh : Nat × (Nat → Nat) × (Nat → Nat)} {I : Nat → Nat → Int32} {J : Nat → Nat → Int64} {R : Nat → Nat → Option Nat} {x0 : Nat} {x1 : Int32} {x2 : Int32}
    (h_x0 : At9 sh R x0)
    (t : (x2 < 0 → (Q (sh, I, J, R) (some (.int (0 : Int32))))) ∧ (¬ x2 < 0 → (((I x0 39) ≤ (x2 + (1 : Int32)) → (Q (sh, I, J, R) (some (.int (0 : Int32))))) ∧ (¬ (I x0 39) ≤ (x2 + (1 : Int32)) → (vp_in ((((8 : Int32) * x1) + x2)) 176 ∧ (vp_in (((((8 : Int32) * x1) + x2) + (1 : Int32))) 176 ∧ (((I (x0 + 26) ((((8 : Int32) * x1) + x2)).toNatClampNeg) = (I (x0 + 26) (((((8 : Int32) * x1) + x2) + (1 : Int32))).toNatClampNeg) → (Q (sh, I, J, R) (some (.int (0 : Int32))))) ∧ (¬ (I (x0 + 26) ((((8 : Int32) * x1) + x2)).toNatClampNeg) = (I (x0 + 26) (((((8 : Int32) * x1) + x2) + (1 : Int32))).toNatClampNeg) → (Q (sh, I, J, R) (some (.int (1 : Int32)))))))))))) :
    rW γ l m_X9_isFlat 0 0 0 [some (.ref x0), some (.int x1), some (.int x2)] [] (sh, I, J, R) Q := by
  by_cases p0 : x2 < 0
  · have t := t.1 p0
    exact ⟨_, _, b_X9_isFlat_0  h_x0 (fun _ => ⟨rfl, rfl⟩) (fun y0 _ => absurd p0 y0) (fun y0 _ => absurd p0 y0) (fun y0 _ => absurd p0 y0) (fun y0 _ _ => absurd p0 y0) (fun y0 _ _ => absurd p0 y0), t⟩
  · have t := t.2 p0
    by_cases p1 : (I x0 39) ≤ (x2 + (1 : Int32))
    · have t := t.1 p1
      exact ⟨_, _, b_X9_isFlat_0  h_x0 (fun y0 => absurd y0 p0) (fun _ _ => ⟨rfl, rfl⟩) (fun _ y1 => absurd p1 y1) (fun _ y1 => absurd p1 y1) (fun _ y1 _ => absurd p1 y1) (fun _ y1 _ => absurd p1 y1), t⟩
    · have t := t.2 p1
      obtain ⟨b5, t⟩ := t
      obtain ⟨b6, t⟩ := t
      by_cases p2 : (I (x0 + 26) ((((8 : Int32) * x1) + x2)).toNatClampNeg) = (I (x0 + 26) (((((8 : Int32) * x1) + x2) + (1 : Int32))).toNatClampNeg)
      · have t := t.1 p2
        exact ⟨_, _, b_X9_isFlat_0  h_x0 (fun y0 => absurd y0 p0) (fun _ y1 => absurd y1 p1) (fun _ _ => b5) (fun _ _ => b6) (fun _ _ _ => ⟨rfl, rfl⟩) (fun _ _ y2 => absurd p2 y2), t⟩
      · have t := t.2 p2
        exact ⟨_, _, b_X9_isFlat_0  h_x0 (fun y0 => absurd y0 p0) (fun _ y1 => absurd y1 p1) (fun _ _ => b5) (fun _ _ => b6) (fun _ _ y2 => absurd y2 p2) (fun _ _ _ => ⟨rfl, rfl⟩), t⟩
abbrev s_X9_low_0 (γ : rG) (l : Launch) (x0 : Nat) (x1 : Int32) (x2 : Int32) (h : rHeap) (Q : rHeap → Option Value → Prop) : Prop := rW γ l m_X9_low 0 0 0 [some (.ref x0), some (.int x1), some (.int x2)] [] h Q
theorem w_X9_low_0 {γ : rG} {l : Launch} {Q : rHeap → Option Value → Prop} {sh : Nat × (Nat → Nat) × (Nat → Nat)} {I : Nat → Nat → Int32} {J : Nat → Nat → Int64} {R : Nat → Nat → Option Nat} {x0 : Nat} {x1 : Int32} {x2 : Int32}
    (h_x0 : At9 sh R x0)
    (t : vp_in ((((8 : Int32) * x1) + x2)) 176 ∧ (vp_in (((((8 : Int32) * x1) + x2) + (1 : Int32))) 176 ∧ (((I (x0 + 27) (((((8 : Int32) * x1) + x2) + (1 : Int32))).toNatClampNeg) ≤ (I (x0 + 27) ((((8 : Int32) * x1) + x2)).toNatClampNeg) → (vp_in (((((8 : Int32) * x1) + x2) + (1 : Int32))) 176 ∧ (Q (sh, I, J, R) (some (.int ((I (x0 + 27) (((((8 : Int32) * x1) + x2) + (1 : Int32))).toNatClampNeg))))))) ∧ (¬ (I (x0 + 27) (((((8 : Int32) * x1) + x2) + (1 : Int32))).toNatClampNeg) ≤ (I (x0 + 27) ((((8 : Int32) * x1) + x2)).toNatClampNeg) → (vp_in ((((8 : Int32) * x1) + x2)) 176 ∧ (Q (sh, I, J, R) (some (.int ((I (x0 + 27) ((((8 : Int32) * x1) + x2)).toNatClampNeg)))))))))) :
    rW γ l m_X9_low 0 0 0 [some (.ref x0), some (.int x1), some (.int x2)] [] (sh, I, J, R) Q := by
  obtain ⟨b1, t⟩ := t
  obtain ⟨b2, t⟩ := t
  by_cases p0 : (I (x0 + 27) (((((8 : Int32) * x1) + x2) + (1 : Int32))).toNatClampNeg) ≤ (I (x0 + 27) ((((8 : Int32) * x1) + x2)).toNatClampNeg)
  · have t := t.1 p0
    obtain ⟨b4, t⟩ := t
    exact ⟨_, _, b_X9_low_0  h_x0 b1 b2 (fun _ => b4) (fun _ => ⟨rfl, rfl⟩) (fun y0 => absurd p0 y0) (fun y0 => absurd p0 y0), t⟩
  · have t := t.2 p0
    obtain ⟨b6, t⟩ := t
    exact ⟨_, _, b_X9_low_0  h_x0 b1 b2 (fun y0 => absurd y0 p0) (fun y0 => absurd y0 p0) (fun _ => b6) (fun _ => ⟨rfl, rfl⟩), t⟩
abbrev s_X9_high_0 (γ : rG) (l : Launch) (x0 : Nat) (x1 : Int32) (x2 : Int32) (h : rHeap) (Q : rHeap → Option Value → Prop) : Prop := rW γ l m_X9_high 0 0 0 [some (.ref x0), some (.int x1), some (.int x2)] [] h Q
theorem w_X9_high_0 {γ : rG} {l : Launch} {Q : rHeap → Option Value → Prop} {sh : Nat × (Nat → Nat) × (Nat → Nat)} {I : Nat → Nat → Int32} {J : Nat → Nat → Int64} {R : Nat → Nat → Option Nat} {x0 : Nat} {x1 : Int32} {x2 : Int32}
    (h_x0 : At9 sh R x0)
    (t : vp_in ((((8 : Int32) * x1) + x2)) 176 ∧ (vp_in (((((8 : Int32) * x1) + x2) + (1 : Int32))) 176 ∧ (((I (x0 + 27) (((((8 : Int32) * x1) + x2) + (1 : Int32))).toNatClampNeg) ≤ (I (x0 + 27) ((((8 : Int32) * x1) + x2)).toNatClampNeg) → (vp_in ((((8 : Int32) * x1) + x2)) 176 ∧ (Q (sh, I, J, R) (some (.int ((I (x0 + 27) ((((8 : Int32) * x1) + x2)).toNatClampNeg))))))) ∧ (¬ (I (x0 + 27) (((((8 : Int32) * x1) + x2) + (1 : Int32))).toNatClampNeg) ≤ (I (x0 + 27) ((((8 : Int32) * x1) + x2)).toNatClampNeg) → (vp_in (((((8 : Int32) * x1) + x2) + (1 : Int32))) 176 ∧ (Q (sh, I, J, R) (some (.int ((I (x0 + 27) (((((8 : Int32) * x1) + x2) + (1 : Int32))).toNatClampNeg)))))))))) :
    rW γ l m_X9_high 0 0 0 [some (.ref x0), some (.int x1), some (.int x2)] [] (sh, I, J, R) Q := by
  obtain ⟨b1, t⟩ := t
  obtain ⟨b2, t⟩ := t
  by_cases p0 : (I (x0 + 27) (((((8 : Int32) * x1) + x2) + (1 : Int32))).toNatClampNeg) ≤ (I (x0 + 27) ((((8 : Int32) * x1) + x2)).toNatClampNeg)
  · have t := t.1 p0
    obtain ⟨b4, t⟩ := t
    exact ⟨_, _, b_X9_high_0  h_x0 b1 b2 (fun _ => b4) (fun _ => ⟨rfl, rfl⟩) (fun y0 => absurd p0 y0) (fun y0 => absurd p0 y0), t⟩
  · have t := t.2 p0
    obtain ⟨b6, t⟩ := t
    exact ⟨_, _, b_X9_high_0  h_x0 b1 b2 (fun y0 => absurd y0 p0) (fun y0 => absurd y0 p0) (fun _ => b6) (fun _ => ⟨rfl, rfl⟩), t⟩
abbrev s_X9_goesOn_0 (γ : rG) (l : Launch) (x0 : Nat) (x1 : Int32) (x2 : Int32) (x3 : Int32) (h : rHeap) (Q : rHeap → Option Value → Prop) : Prop := rW γ l m_X9_goesOn 0 0 0 [some (.ref x0), some (.int x1), some (.int x2), some (.int x3), none] [] h Q
theorem w_X9_goesOn_0 {γ : rG} {l : Launch} {Q : rHeap → Option Value → Prop} {sh : Nat × (Nat → Nat) × (Nat → Nat)} {I : Nat → Nat → Int32} {J : Nat → Nat → Int64} {R : Nat → Nat → Option Nat} {x0 : Nat} {x1 : Int32} {x2 : Int32} {x3 : Int32}
    (h_x0 : At9 sh R x0)
    (t : vp_in ((((8 : Int32) * x1) + x2)) 176 ∧ ((x3 = 0 → (rW γ l m_X9_goesOn 0 0 20 [some (.ref x0), some (.int x1), some (.int x2), none, none] [.int (-1 : Int32), .int (I (x0 + 26) ((((8 : Int32) * x1) + x2)).toNatClampNeg)] (sh, I, J, R) Q)) ∧ (¬ x3 = 0 → (rW γ l m_X9_goesOn 0 0 20 [some (.ref x0), some (.int x1), some (.int x2), none, none] [.int (1 : Int32), .int (I (x0 + 26) ((((8 : Int32) * x1) + x2)).toNatClampNeg)] (sh, I, J, R) Q)))) :
    rW γ l m_X9_goesOn 0 0 0 [some (.ref x0), some (.int x1), some (.int x2), some (.int x3), none] [] (sh, I, J, R) Q := by
  obtain ⟨b1, t⟩ := t
  by_cases p0 : x3 = 0
  · have t := t.1 p0
    obtain ⟨hf, r, t, q⟩ := t
    exact ⟨hf, r, b_X9_goesOn_0  h_x0 b1 (fun _ => t) (fun y0 => absurd p0 y0), q⟩
  · have t := t.2 p0
    obtain ⟨hf, r, t, q⟩ := t
    exact ⟨hf, r, b_X9_goesOn_0  h_x0 b1 (fun y0 => absurd y0 p0) (fun _ => t), q⟩
abbrev s_X9_goesOn_20 (γ : rG) (l : Launch) (x0 : Nat) (x1 : Int32) (x2 : Int32) (s0 : Int32) (s1 : Int32) (h : rHeap) (Q : rHeap → Option Value → Prop) : Prop := rW γ l m_X9_goesOn 0 0 20 [some (.ref x0), some (.int x1), some (.int x2), none, none] [.int s0, .int s1] h Q
theorem w_X9_goesOn_20 {γ : rG} {l : Launch} {Q : rHeap → Option Value → Prop} {sh : Nat × (Nat → Nat) × (Nat → Nat)} {I : Nat → Nat → Int32} {J : Nat → Nat → Int64} {R : Nat → Nat → Option Nat} {x0 : Nat} {x1 : Int32} {x2 : Int32} {s0 : Int32} {s1 : Int32}
    (h_x0 : At9 sh R x0)
    (t : (x2 ≤ 0 → (rW γ l m_X9_goesOn 0 0 45 [some (.ref x0), some (.int x1), some (.int x2), none, some (.int (s1 + s0))] [] (sh, I, J, R) Q)) ∧ (¬ x2 ≤ 0 → (vp_in (((((8 : Int32) * x1) + x2) - (1 : Int32))) 176 ∧ (((I (x0 + 26) (((((8 : Int32) * x1) + x2) - (1 : Int32))).toNatClampNeg) = (s1 + s0) → (Q (sh, I, J, R) (some (.int (1 : Int32))))) ∧ (¬ (I (x0 + 26) (((((8 : Int32) * x1) + x2) - (1 : Int32))).toNatClampNeg) = (s1 + s0) → (rW γ l m_X9_goesOn 0 0 45 [some (.ref x0), some (.int x1), some (.int x2), none, some (.int (s1 + s0))] [] (sh, I, J, R) Q)))))) :
    rW γ l m_X9_goesOn 0 0 20 [some (.ref x0), some (.int x1), some (.int x2), none, none] [.int s0, .int s1] (sh, I, J, R) Q := by
  by_cases p0 : x2 ≤ 0
  · have t := t.1 p0
    obtain ⟨hf, r, t, q⟩ := t
    exact ⟨hf, r, b_X9_goesOn_20  h_x0 (fun _ => t) (fun y0 => absurd p0 y0) (fun y0 _ => absurd p0 y0) (fun y0 _ => absurd p0 y0), q⟩
  · have t := t.2 p0
    obtain ⟨b3, t⟩ := t
    by_cases p1 : (I (x0 + 26) (((((8 : Int32) * x1) + x2) - (1 : Int32))).toNatClampNeg) = (s1 + s0)
    · have t := t.1 p1
      exact ⟨_, _, b_X9_goesOn_20  h_x0 (fun y0 => absurd y0 p0) (fun _ => b3) (fun _ _ => ⟨rfl, rfl⟩) (fun _ y1 => absurd p1 y1), t⟩
    · have t := t.2 p1
      obtain ⟨hf, r, t, q⟩ := t
      exact ⟨hf, r, b_X9_goesOn_20  h_x0 (fun y0 => absurd y0 p0) (fun _ => b3) (fun _ y1 => absurd y1 p1) (fun _ _ => t), q⟩
abbrev s_X9_goesOn_45 (γ : rG) (l : Launch) (x0 : Nat) (x1 : Int32) (x2 : Int32) (x4 : Int32) (h : rHeap) (Q : rHeap → Option Value → Prop) : Prop := rW γ l m_X9_goesOn 0 0 45 [some (.ref x0), some (.int x1), some (.int x2), none, some (.int x4)] [] h Q
theorem w_X9_goesOn_45 {γ : rG} {l : Launch} {Q : rHeap → Option Value → Prop} {sh : Nat × (Nat → Nat) × (Nat → Nat)} {I : Nat → Nat → Int32} {J : Nat → Nat → Int64} {R : Nat → Nat → Option Nat} {x0 : Nat} {x1 : Int32} {x2 : Int32} {x4 : Int32}
    (h_x0 : At9 sh R x0)
    (t : ((I x0 39) ≤ (x2 + (1 : Int32)) → (Q (sh, I, J, R) (some (.int (0 : Int32))))) ∧ (¬ (I x0 39) ≤ (x2 + (1 : Int32)) → (vp_in (((((8 : Int32) * x1) + x2) + (1 : Int32))) 176 ∧ (((I (x0 + 26) (((((8 : Int32) * x1) + x2) + (1 : Int32))).toNatClampNeg) = x4 → (Q (sh, I, J, R) (some (.int (1 : Int32))))) ∧ (¬ (I (x0 + 26) (((((8 : Int32) * x1) + x2) + (1 : Int32))).toNatClampNeg) = x4 → (Q (sh, I, J, R) (some (.int (0 : Int32))))))))) :
    rW γ l m_X9_goesOn 0 0 45 [some (.ref x0), some (.int x1), some (.int x2), none, some (.int x4)] [] (sh, I, J, R) Q := by
  by_cases p0 : (I x0 39) ≤ (x2 + (1 : Int32))
  · have t := t.1 p0
    exact ⟨_, _, b_X9_goesOn_45  h_x0 (fun _ => ⟨rfl, rfl⟩) (fun y0 => absurd p0 y0) (fun y0 _ => absurd p0 y0) (fun y0 _ => absurd p0 y0), t⟩
  · have t := t.2 p0
    obtain ⟨b3, t⟩ := t
    by_cases p1 : (I (x0 + 26) (((((8 : Int32) * x1) + x2) + (1 : Int32))).toNatClampNeg) = x4
    · have t := t.1 p1
      exact ⟨_, _, b_X9_goesOn_45  h_x0 (fun y0 => absurd y0 p0) (fun _ => b3) (fun _ y1 => absurd p1 y1) (fun _ _ => ⟨rfl, rfl⟩), t⟩
    · have t := t.2 p1
      exact ⟨_, _, b_X9_goesOn_45  h_x0 (fun y0 => absurd y0 p0) (fun _ => b3) (fun _ _ => ⟨rfl, rfl⟩) (fun _ y1 => absurd y1 p1), t⟩
abbrev s_X9_mayBe_0 (γ : rG) (l : Launch) (x0 : Nat) (x1 : Int32) (h : rHeap) (Q : rHeap → Option Value → Prop) : Prop := rW γ l m_X9_mayBe 0 0 0 [some (.ref x0), some (.int x1), none, none, none, none] [] h Q
theorem w_X9_mayBe_0 {γ : rG} {l : Launch} {Q : rHeap → Option Value → Prop} {sh : Nat × (Nat → Nat) × (Nat → Nat)} {I : Nat → Nat → Int32} {J : Nat → Nat → Int64} {R : Nat → Nat → Option Nat} {x0 : Nat} {x1 : Int32}
    (h_x0 : At9 sh R x0)
    (t : rW γ l m_X9_mayBe 0 0 2 [some (.ref x0), some (.int x1), some (.int (0 : Int32)), none, none, none] [] (sh, I, J, R) Q) :
    rW γ l m_X9_mayBe 0 0 0 [some (.ref x0), some (.int x1), none, none, none, none] [] (sh, I, J, R) Q := by
  obtain ⟨hf, r, t, q⟩ := t
  exact ⟨hf, r, b_X9_mayBe_0  h_x0 t, q⟩
abbrev s_X9_mayBe_2 (γ : rG) (l : Launch) (x0 : Nat) (x1 : Int32) (x2 : Int32) (h : rHeap) (Q : rHeap → Option Value → Prop) : Prop := rW γ l m_X9_mayBe 0 0 2 [some (.ref x0), some (.int x1), some (.int x2), none, none, none] [] h Q
theorem w_X9_mayBe_2 {γ : rG} {l : Launch} {Q : rHeap → Option Value → Prop} {sh : Nat × (Nat → Nat) × (Nat → Nat)} {I : Nat → Nat → Int32} {J : Nat → Nat → Int64} {R : Nat → Nat → Option Nat} {x0 : Nat} {x1 : Int32} {x2 : Int32}
    (h_x0 : At9 sh R x0)
    (t : ((I x0 39) ≤ x2 → (Q (sh, I, J, R) (some (.int (1 : Int32))))) ∧ (¬ (I x0 39) ≤ x2 → (rW γ l m_X9_mayBe 0 0 12 [some (.ref x0), some (.int x1), some (.int x2), some (.int (0 : Int32)), none, none] [] (sh, I, J, R) Q))) :
    rW γ l m_X9_mayBe 0 0 2 [some (.ref x0), some (.int x1), some (.int x2), none, none, none] [] (sh, I, J, R) Q := by
  by_cases p0 : (I x0 39) ≤ x2
  · have t := t.1 p0
    exact ⟨_, _, b_X9_mayBe_2  h_x0 (fun _ => ⟨rfl, rfl⟩) (fun y0 => absurd p0 y0), t⟩
  · have t := t.2 p0
    obtain ⟨hf, r, t, q⟩ := t
    exact ⟨hf, r, b_X9_mayBe_2  h_x0 (fun y0 => absurd y0 p0) (fun _ => t), q⟩
abbrev s_X9_mayBe_12 (γ : rG) (l : Launch) (x0 : Nat) (x1 : Int32) (x2 : Int32) (x3 : Int32) (h : rHeap) (Q : rHeap → Option Value → Prop) : Prop := rW γ l m_X9_mayBe 0 0 12 [some (.ref x0), some (.int x1), some (.int x2), some (.int x3), none, none] [] h Q
theorem w_X9_mayBe_12 {γ : rG} {l : Launch} {Q : rHeap → Option Value → Prop} {sh : Nat × (Nat → Nat) × (Nat → Nat)} {I : Nat → Nat → Int32} {J : Nat → Nat → Int64} {R : Nat → Nat → Option Nat} {x0 : Nat} {x1 : Int32} {x2 : Int32} {x3 : Int32}
    (h_x0 : At9 sh R x0)
    (t : ((I x0 39) ≤ x3 → (∃ (v3 : Int32), rMet γ l m_X9_isCrease [.ref x0, .int x1, .int x2] (sh, I, J, R) (sh, I, J, R) (some (.int v3)) ∧ ((v3 = 0 → (rW γ l m_X9_mayBe 0 0 2 [some (.ref x0), some (.int x1), some (.int (x2 + (1 : Int32))), none, none, none] [] (sh, I, J, R) Q)) ∧ (¬ v3 = 0 → (rW γ l m_X9_mayBe 0 0 229 [some (.ref x0), some (.int x1), some (.int x2), some (.int (0 : Int32)), none, none] [] (sh, I, J, R) Q))))) ∧ (¬ (I x0 39) ≤ x3 → ((x2 = x3 → (rW γ l m_X9_mayBe 0 0 12 [some (.ref x0), some (.int x1), some (.int x2), some (.int (x3 + (1 : Int32))), none, none] [] (sh, I, J, R) Q)) ∧ (¬ x2 = x3 → (∃ (v9 : Int32), rMet γ l m_X9_isCrease [.ref x0, .int x1, .int x2] (sh, I, J, R) (sh, I, J, R) (some (.int v9)) ∧ ((v9 = 0 → (rW γ l m_X9_mayBe 0 0 179 [some (.ref x0), some (.int x1), some (.int x2), some (.int x3), none, none] [] (sh, I, J, R) Q)) ∧ (¬ v9 = 0 → (∃ (v13 : Int32), rMet γ l m_X9_isCrease [.ref x0, .int x1, .int x3] (sh, I, J, R) (sh, I, J, R) (some (.int v13)) ∧ ((v13 = 0 → (rW γ l m_X9_mayBe 0 0 179 [some (.ref x0), some (.int x1), some (.int x2), some (.int x3), none, none] [] (sh, I, J, R) Q)) ∧ (¬ v13 = 0 → (vp_in ((((8 : Int32) * x1) + x2)) 176 ∧ (vp_in ((((8 : Int32) * x1) + x3)) 176 ∧ (((I (x0 + 26) ((((8 : Int32) * x1) + x2)).toNatClampNeg) = (I (x0 + 26) ((((8 : Int32) * x1) + x3)).toNatClampNeg) → (vp_in ((((8 : Int32) * x1) + x2)) 176 ∧ (vp_in ((((8 : Int32) * x1) + x3)) 176 ∧ (((I (x0 + 28) ((((8 : Int32) * x1) + x2)).toNatClampNeg) = (I (x0 + 28) ((((8 : Int32) * x1) + x3)).toNatClampNeg) → (∃ (v25 : Int32), rMet γ l m_X9_low [.ref x0, .int x1, .int x2] (sh, I, J, R) (sh, I, J, R) (some (.int v25)) ∧ (∃ (v27 : Int32), rMet γ l m_X9_low [.ref x0, .int x1, .int x3] (sh, I, J, R) (sh, I, J, R) (some (.int v27)) ∧ ((v27 ≤ v25 → (rW γ l m_X9_mayBe 0 0 130 [some (.ref x0), some (.int x1), some (.int x2), some (.int x3), none, none] [] (sh, I, J, R) Q)) ∧ (¬ v27 ≤ v25 → (∃ (v31 : Int32), rMet γ l m_X9_low [.ref x0, .int x1, .int x3] (sh, I, J, R) (sh, I, J, R) (some (.int v31)) ∧ (∃ (v33 : Int32), rMet γ l m_X9_high [.ref x0, .int x1, .int x2] (sh, I, J, R) (sh, I, J, R) (some (.int v33)) ∧ ((v33 ≤ v31 → (rW γ l m_X9_mayBe 0 0 130 [some (.ref x0), some (.int x1), some (.int x2), some (.int x3), none, none] [] (sh, I, J, R) Q)) ∧ (¬ v33 ≤ v31 → (rW γ l m_X9_mayBe 0 0 131 [some (.ref x0), some (.int x1), some (.int x2), some (.int x3), none, none] [.int (1 : Int32)] (sh, I, J, R) Q)))))))))) ∧ (¬ (I (x0 + 28) ((((8 : Int32) * x1) + x2)).toNatClampNeg) = (I (x0 + 28) ((((8 : Int32) * x1) + x3)).toNatClampNeg) → (rW γ l m_X9_mayBe 0 0 179 [some (.ref x0), some (.int x1), some (.int x2), some (.int x3), none, none] [] (sh, I, J, R) Q)))))) ∧ (¬ (I (x0 + 26) ((((8 : Int32) * x1) + x2)).toNatClampNeg) = (I (x0 + 26) ((((8 : Int32) * x1) + x3)).toNatClampNeg) → (rW γ l m_X9_mayBe 0 0 179 [some (.ref x0), some (.int x1), some (.int x2), some (.int x3), none, none] [] (sh, I, J, R) Q))))))))))))))) :
    rW γ l m_X9_mayBe 0 0 12 [some (.ref x0), some (.int x1), some (.int x2), some (.int x3), none, none] [] (sh, I, J, R) Q := by
  by_cases p0 : (I x0 39) ≤ x3
  · have t := t.1 p0
    obtain ⟨v3, m2, t⟩ := t
    by_cases p1 : v3 = 0
    · have t := t.1 p1
      obtain ⟨hf, r, t, q⟩ := t
      exact ⟨hf, r, b_X9_mayBe_12 (v9 := 0) (v13 := 0) (v25 := 0) (v27 := 0) (v31 := 0) (v33 := 0) h_x0 (fun _ => m2) (fun _ y1 => absurd p1 y1) (fun _ _ => t) (fun y0 _ => absurd p0 y0) (fun y0 _ _ => absurd p0 y0) (fun y0 _ _ => absurd p0 y0) (fun y0 _ _ _ => absurd p0 y0) (fun y0 _ _ _ => absurd p0 y0) (fun y0 _ _ _ => absurd p0 y0) (fun y0 _ _ _ _ => absurd p0 y0) (fun y0 _ _ _ _ => absurd p0 y0) (fun y0 _ _ _ _ => absurd p0 y0) (fun y0 _ _ _ _ _ => absurd p0 y0) (fun y0 _ _ _ _ _ => absurd p0 y0) (fun y0 _ _ _ _ _ => absurd p0 y0) (fun y0 _ _ _ _ _ _ => absurd p0 y0) (fun y0 _ _ _ _ _ _ => absurd p0 y0) (fun y0 _ _ _ _ _ _ => absurd p0 y0) (fun y0 _ _ _ _ _ _ _ => absurd p0 y0) (fun y0 _ _ _ _ _ _ _ => absurd p0 y0) (fun y0 _ => absurd p0 y0), q⟩
    · have t := t.2 p1
      obtain ⟨hf, r, t, q⟩ := t
      exact ⟨hf, r, b_X9_mayBe_12 (v9 := 0) (v13 := 0) (v25 := 0) (v27 := 0) (v31 := 0) (v33 := 0) h_x0 (fun _ => m2) (fun _ _ => t) (fun _ y1 => absurd y1 p1) (fun y0 _ => absurd p0 y0) (fun y0 _ _ => absurd p0 y0) (fun y0 _ _ => absurd p0 y0) (fun y0 _ _ _ => absurd p0 y0) (fun y0 _ _ _ => absurd p0 y0) (fun y0 _ _ _ => absurd p0 y0) (fun y0 _ _ _ _ => absurd p0 y0) (fun y0 _ _ _ _ => absurd p0 y0) (fun y0 _ _ _ _ => absurd p0 y0) (fun y0 _ _ _ _ _ => absurd p0 y0) (fun y0 _ _ _ _ _ => absurd p0 y0) (fun y0 _ _ _ _ _ => absurd p0 y0) (fun y0 _ _ _ _ _ _ => absurd p0 y0) (fun y0 _ _ _ _ _ _ => absurd p0 y0) (fun y0 _ _ _ _ _ _ => absurd p0 y0) (fun y0 _ _ _ _ _ _ _ => absurd p0 y0) (fun y0 _ _ _ _ _ _ _ => absurd p0 y0) (fun y0 _ => absurd p0 y0), q⟩
  · have t := t.2 p0
    by_cases p1 : x2 = x3
    · have t := t.1 p1
      obtain ⟨hf, r, t, q⟩ := t
      exact ⟨hf, r, b_X9_mayBe_12 (v3 := 0) (v9 := 0) (v13 := 0) (v25 := 0) (v27 := 0) (v31 := 0) (v33 := 0) h_x0 (fun y0 => absurd y0 p0) (fun y0 _ => absurd y0 p0) (fun y0 _ => absurd y0 p0) (fun _ y1 => absurd p1 y1) (fun _ y1 _ => absurd p1 y1) (fun _ y1 _ => absurd p1 y1) (fun _ y1 _ _ => absurd p1 y1) (fun _ y1 _ _ => absurd p1 y1) (fun _ y1 _ _ => absurd p1 y1) (fun _ y1 _ _ _ => absurd p1 y1) (fun _ y1 _ _ _ => absurd p1 y1) (fun _ y1 _ _ _ => absurd p1 y1) (fun _ y1 _ _ _ _ => absurd p1 y1) (fun _ y1 _ _ _ _ => absurd p1 y1) (fun _ y1 _ _ _ _ => absurd p1 y1) (fun _ y1 _ _ _ _ _ => absurd p1 y1) (fun _ y1 _ _ _ _ _ => absurd p1 y1) (fun _ y1 _ _ _ _ _ => absurd p1 y1) (fun _ y1 _ _ _ _ _ _ => absurd p1 y1) (fun _ y1 _ _ _ _ _ _ => absurd p1 y1) (fun _ _ => t), q⟩
    · have t := t.2 p1
      obtain ⟨v9, m8, t⟩ := t
      by_cases p2 : v9 = 0
      · have t := t.1 p2
        obtain ⟨hf, r, t, q⟩ := t
        exact ⟨hf, r, b_X9_mayBe_12 (v3 := 0) (v13 := 0) (v25 := 0) (v27 := 0) (v31 := 0) (v33 := 0) h_x0 (fun y0 => absurd y0 p0) (fun y0 _ => absurd y0 p0) (fun y0 _ => absurd y0 p0) (fun _ _ => m8) (fun _ _ _ => t) (fun _ _ y2 => absurd p2 y2) (fun _ _ y2 _ => absurd p2 y2) (fun _ _ y2 _ => absurd p2 y2) (fun _ _ y2 _ => absurd p2 y2) (fun _ _ y2 _ _ => absurd p2 y2) (fun _ _ y2 _ _ => absurd p2 y2) (fun _ _ y2 _ _ => absurd p2 y2) (fun _ _ y2 _ _ _ => absurd p2 y2) (fun _ _ y2 _ _ _ => absurd p2 y2) (fun _ _ y2 _ _ _ => absurd p2 y2) (fun _ _ y2 _ _ _ _ => absurd p2 y2) (fun _ _ y2 _ _ _ _ => absurd p2 y2) (fun _ _ y2 _ _ _ _ => absurd p2 y2) (fun _ _ y2 _ _ _ _ _ => absurd p2 y2) (fun _ _ y2 _ _ _ _ _ => absurd p2 y2) (fun _ y1 => absurd y1 p1), q⟩
      · have t := t.2 p2
        obtain ⟨v13, m12, t⟩ := t
        by_cases p3 : v13 = 0
        · have t := t.1 p3
          obtain ⟨hf, r, t, q⟩ := t
          exact ⟨hf, r, b_X9_mayBe_12 (v3 := 0) (v25 := 0) (v27 := 0) (v31 := 0) (v33 := 0) h_x0 (fun y0 => absurd y0 p0) (fun y0 _ => absurd y0 p0) (fun y0 _ => absurd y0 p0) (fun _ _ => m8) (fun _ _ y2 => absurd y2 p2) (fun _ _ _ => m12) (fun _ _ _ _ => t) (fun _ _ _ y3 => absurd p3 y3) (fun _ _ _ y3 => absurd p3 y3) (fun _ _ _ y3 _ => absurd p3 y3) (fun _ _ _ y3 _ => absurd p3 y3) (fun _ _ _ y3 _ => absurd p3 y3) (fun _ _ _ y3 _ _ => absurd p3 y3) (fun _ _ _ y3 _ _ => absurd p3 y3) (fun _ _ _ y3 _ _ => absurd p3 y3) (fun _ _ _ y3 _ _ _ => absurd p3 y3) (fun _ _ _ y3 _ _ _ => absurd p3 y3) (fun _ _ _ y3 _ _ _ => absurd p3 y3) (fun _ _ _ y3 _ _ _ _ => absurd p3 y3) (fun _ _ _ y3 _ _ _ _ => absurd p3 y3) (fun _ y1 => absurd y1 p1), q⟩
        · have t := t.2 p3
          obtain ⟨b16, t⟩ := t
          obtain ⟨b17, t⟩ := t
          by_cases p4 : (I (x0 + 26) ((((8 : Int32) * x1) + x2)).toNatClampNeg) = (I (x0 + 26) ((((8 : Int32) * x1) + x3)).toNatClampNeg)
          · have t := t.1 p4
            obtain ⟨b20, t⟩ := t
            obtain ⟨b21, t⟩ := t
            by_cases p5 : (I (x0 + 28) ((((8 : Int32) * x1) + x2)).toNatClampNeg) = (I (x0 + 28) ((((8 : Int32) * x1) + x3)).toNatClampNeg)
            · have t := t.1 p5
              obtain ⟨v25, m24, t⟩ := t
              obtain ⟨v27, m26, t⟩ := t
              by_cases p6 : v27 ≤ v25
              · have t := t.1 p6
                obtain ⟨hf, r, t, q⟩ := t
                exact ⟨hf, r, b_X9_mayBe_12 (v3 := 0) (v31 := 0) (v33 := 0) h_x0 (fun y0 => absurd y0 p0) (fun y0 _ => absurd y0 p0) (fun y0 _ => absurd y0 p0) (fun _ _ => m8) (fun _ _ y2 => absurd y2 p2) (fun _ _ _ => m12) (fun _ _ _ y3 => absurd y3 p3) (fun _ _ _ _ => b16) (fun _ _ _ _ => b17) (fun _ _ _ _ y4 => absurd p4 y4) (fun _ _ _ _ _ => b20) (fun _ _ _ _ _ => b21) (fun _ _ _ _ _ y5 => absurd p5 y5) (fun _ _ _ _ _ _ => m24) (fun _ _ _ _ _ _ => m26) (fun _ _ _ _ _ _ _ => t) (fun _ _ _ _ _ _ y6 => absurd p6 y6) (fun _ _ _ _ _ _ y6 => absurd p6 y6) (fun _ _ _ _ _ _ y6 _ => absurd p6 y6) (fun _ _ _ _ _ _ y6 _ => absurd p6 y6) (fun _ y1 => absurd y1 p1), q⟩
              · have t := t.2 p6
                obtain ⟨v31, m30, t⟩ := t
                obtain ⟨v33, m32, t⟩ := t
                by_cases p7 : v33 ≤ v31
                · have t := t.1 p7
                  obtain ⟨hf, r, t, q⟩ := t
                  exact ⟨hf, r, b_X9_mayBe_12 (v3 := 0) h_x0 (fun y0 => absurd y0 p0) (fun y0 _ => absurd y0 p0) (fun y0 _ => absurd y0 p0) (fun _ _ => m8) (fun _ _ y2 => absurd y2 p2) (fun _ _ _ => m12) (fun _ _ _ y3 => absurd y3 p3) (fun _ _ _ _ => b16) (fun _ _ _ _ => b17) (fun _ _ _ _ y4 => absurd p4 y4) (fun _ _ _ _ _ => b20) (fun _ _ _ _ _ => b21) (fun _ _ _ _ _ y5 => absurd p5 y5) (fun _ _ _ _ _ _ => m24) (fun _ _ _ _ _ _ => m26) (fun _ _ _ _ _ _ y6 => absurd y6 p6) (fun _ _ _ _ _ _ _ => m30) (fun _ _ _ _ _ _ _ => m32) (fun _ _ _ _ _ _ _ _ => t) (fun _ _ _ _ _ _ _ y7 => absurd p7 y7) (fun _ y1 => absurd y1 p1), q⟩
                · have t := t.2 p7
                  obtain ⟨hf, r, t, q⟩ := t
                  exact ⟨hf, r, b_X9_mayBe_12 (v3 := 0) h_x0 (fun y0 => absurd y0 p0) (fun y0 _ => absurd y0 p0) (fun y0 _ => absurd y0 p0) (fun _ _ => m8) (fun _ _ y2 => absurd y2 p2) (fun _ _ _ => m12) (fun _ _ _ y3 => absurd y3 p3) (fun _ _ _ _ => b16) (fun _ _ _ _ => b17) (fun _ _ _ _ y4 => absurd p4 y4) (fun _ _ _ _ _ => b20) (fun _ _ _ _ _ => b21) (fun _ _ _ _ _ y5 => absurd p5 y5) (fun _ _ _ _ _ _ => m24) (fun _ _ _ _ _ _ => m26) (fun _ _ _ _ _ _ y6 => absurd y6 p6) (fun _ _ _ _ _ _ _ => m30) (fun _ _ _ _ _ _ _ => m32) (fun _ _ _ _ _ _ _ y7 => absurd y7 p7) (fun _ _ _ _ _ _ _ _ => t) (fun _ y1 => absurd y1 p1), q⟩
            · have t := t.2 p5
              obtain ⟨hf, r, t, q⟩ := t
              exact ⟨hf, r, b_X9_mayBe_12 (v3 := 0) (v25 := 0) (v27 := 0) (v31 := 0) (v33 := 0) h_x0 (fun y0 => absurd y0 p0) (fun y0 _ => absurd y0 p0) (fun y0 _ => absurd y0 p0) (fun _ _ => m8) (fun _ _ y2 => absurd y2 p2) (fun _ _ _ => m12) (fun _ _ _ y3 => absurd y3 p3) (fun _ _ _ _ => b16) (fun _ _ _ _ => b17) (fun _ _ _ _ y4 => absurd p4 y4) (fun _ _ _ _ _ => b20) (fun _ _ _ _ _ => b21) (fun _ _ _ _ _ _ => t) (fun _ _ _ _ _ y5 => absurd y5 p5) (fun _ _ _ _ _ y5 => absurd y5 p5) (fun _ _ _ _ _ y5 _ => absurd y5 p5) (fun _ _ _ _ _ y5 _ => absurd y5 p5) (fun _ _ _ _ _ y5 _ => absurd y5 p5) (fun _ _ _ _ _ y5 _ _ => absurd y5 p5) (fun _ _ _ _ _ y5 _ _ => absurd y5 p5) (fun _ y1 => absurd y1 p1), q⟩
          · have t := t.2 p4
            obtain ⟨hf, r, t, q⟩ := t
            exact ⟨hf, r, b_X9_mayBe_12 (v3 := 0) (v25 := 0) (v27 := 0) (v31 := 0) (v33 := 0) h_x0 (fun y0 => absurd y0 p0) (fun y0 _ => absurd y0 p0) (fun y0 _ => absurd y0 p0) (fun _ _ => m8) (fun _ _ y2 => absurd y2 p2) (fun _ _ _ => m12) (fun _ _ _ y3 => absurd y3 p3) (fun _ _ _ _ => b16) (fun _ _ _ _ => b17) (fun _ _ _ _ _ => t) (fun _ _ _ _ y4 => absurd y4 p4) (fun _ _ _ _ y4 => absurd y4 p4) (fun _ _ _ _ y4 _ => absurd y4 p4) (fun _ _ _ _ y4 _ => absurd y4 p4) (fun _ _ _ _ y4 _ => absurd y4 p4) (fun _ _ _ _ y4 _ _ => absurd y4 p4) (fun _ _ _ _ y4 _ _ => absurd y4 p4) (fun _ _ _ _ y4 _ _ => absurd y4 p4) (fun _ _ _ _ y4 _ _ _ => absurd y4 p4) (fun _ _ _ _ y4 _ _ _ => absurd y4 p4) (fun _ y1 => absurd y1 p1), q⟩
abbrev s_X9_mayBe_229 (γ : rG) (l : Launch) (x0 : Nat) (x1 : Int32) (x2 : Int32) (x3 : Int32) (h : rHeap) (Q : rHeap → Option Value → Prop) : Prop := rW γ l m_X9_mayBe 0 0 229 [some (.ref x0), some (.int x1), some (.int x2), some (.int x3), none, none] [] h Q
theorem w_X9_mayBe_229 {γ : rG} {l : Launch} {Q : rHeap → Option Value → Prop} {sh : Nat × (Nat → Nat) × (Nat → Nat)} {I : Nat → Nat → Int32} {J : Nat → Nat → Int64} {R : Nat → Nat → Option Nat} {x0 : Nat} {x1 : Int32} {x2 : Int32} {x3 : Int32}
    (h_x0 : At9 sh R x0)
    (t : ((I x0 39) ≤ x3 → (rW γ l m_X9_mayBe 0 0 2 [some (.ref x0), some (.int x1), some (.int (x2 + (1 : Int32))), none, none, none] [] (sh, I, J, R) Q)) ∧ (¬ (I x0 39) ≤ x3 → (vp_in ((((8 : Int32) * x1) + x3)) 176 ∧ (vp_in ((((8 : Int32) * x1) + x2)) 176 ∧ (((I (x0 + 26) ((((8 : Int32) * x1) + x3)).toNatClampNeg) = (I (x0 + 26) ((((8 : Int32) * x1) + x2)).toNatClampNeg) → (vp_in ((((8 : Int32) * x1) + x3)) 176 ∧ (∃ (v9 : Int32), rMet γ l m_X9_low [.ref x0, .int x1, .int x2] (sh, I, J, R) (sh, I, J, R) (some (.int v9)) ∧ (((I (x0 + 27) ((((8 : Int32) * x1) + x3)).toNatClampNeg) ≤ v9 → (rW γ l m_X9_mayBe 0 0 229 [some (.ref x0), some (.int x1), some (.int x2), some (.int (x3 + (1 : Int32))), none, none] [] (sh, I, J, R) Q)) ∧ (¬ (I (x0 + 27) ((((8 : Int32) * x1) + x3)).toNatClampNeg) ≤ v9 → (vp_in ((((8 : Int32) * x1) + x3)) 176 ∧ (∃ (v14 : Int32), rMet γ l m_X9_high [.ref x0, .int x1, .int x2] (sh, I, J, R) (sh, I, J, R) (some (.int v14)) ∧ (((I (x0 + 27) ((((8 : Int32) * x1) + x3)).toNatClampNeg) < v14 → (vp_in ((((8 : Int32) * x1) + x2)) 176 ∧ (∃ (v18 : Int32), rMet γ l m_X9_goesOn [.ref x0, .int x1, .int x3, .int (I (x0 + 28) ((((8 : Int32) * x1) + x2)).toNatClampNeg)] (sh, I, J, R) (sh, I, J, R) (some (.int v18)) ∧ ((v18 = 0 → (rW γ l m_X9_mayBe 0 0 229 [some (.ref x0), some (.int x1), some (.int x2), some (.int (x3 + (1 : Int32))), none, none] [] (sh, I, J, R) Q)) ∧ (¬ v18 = 0 → (Q (sh, I, J, R) (some (.int (0 : Int32))))))))) ∧ (¬ (I (x0 + 27) ((((8 : Int32) * x1) + x3)).toNatClampNeg) < v14 → (rW γ l m_X9_mayBe 0 0 229 [some (.ref x0), some (.int x1), some (.int x2), some (.int (x3 + (1 : Int32))), none, none] [] (sh, I, J, R) Q)))))))))) ∧ (¬ (I (x0 + 26) ((((8 : Int32) * x1) + x3)).toNatClampNeg) = (I (x0 + 26) ((((8 : Int32) * x1) + x2)).toNatClampNeg) → (rW γ l m_X9_mayBe 0 0 229 [some (.ref x0), some (.int x1), some (.int x2), some (.int (x3 + (1 : Int32))), none, none] [] (sh, I, J, R) Q))))))) :
    rW γ l m_X9_mayBe 0 0 229 [some (.ref x0), some (.int x1), some (.int x2), some (.int x3), none, none] [] (sh, I, J, R) Q := by
  by_cases p0 : (I x0 39) ≤ x3
  · have t := t.1 p0
    obtain ⟨hf, r, t, q⟩ := t
    exact ⟨hf, r, b_X9_mayBe_229 (v9 := 0) (v14 := 0) (v18 := 0) h_x0 (fun _ => t) (fun y0 => absurd p0 y0) (fun y0 => absurd p0 y0) (fun y0 _ => absurd p0 y0) (fun y0 _ => absurd p0 y0) (fun y0 _ => absurd p0 y0) (fun y0 _ _ => absurd p0 y0) (fun y0 _ _ => absurd p0 y0) (fun y0 _ _ => absurd p0 y0) (fun y0 _ _ _ => absurd p0 y0) (fun y0 _ _ _ => absurd p0 y0) (fun y0 _ _ _ _ => absurd p0 y0) (fun y0 _ _ _ _ => absurd p0 y0) (fun y0 _ _ _ => absurd p0 y0), q⟩
  · have t := t.2 p0
    obtain ⟨b3, t⟩ := t
    obtain ⟨b4, t⟩ := t
    by_cases p1 : (I (x0 + 26) ((((8 : Int32) * x1) + x3)).toNatClampNeg) = (I (x0 + 26) ((((8 : Int32) * x1) + x2)).toNatClampNeg)
    · have t := t.1 p1
      obtain ⟨b7, t⟩ := t
      obtain ⟨v9, m8, t⟩ := t
      by_cases p2 : (I (x0 + 27) ((((8 : Int32) * x1) + x3)).toNatClampNeg) ≤ v9
      · have t := t.1 p2
        obtain ⟨hf, r, t, q⟩ := t
        exact ⟨hf, r, b_X9_mayBe_229 (v14 := 0) (v18 := 0) h_x0 (fun y0 => absurd y0 p0) (fun _ => b3) (fun _ => b4) (fun _ y1 => absurd p1 y1) (fun _ _ => b7) (fun _ _ => m8) (fun _ _ _ => t) (fun _ _ y2 => absurd p2 y2) (fun _ _ y2 => absurd p2 y2) (fun _ _ y2 _ => absurd p2 y2) (fun _ _ y2 _ => absurd p2 y2) (fun _ _ y2 _ _ => absurd p2 y2) (fun _ _ y2 _ _ => absurd p2 y2) (fun _ _ y2 _ => absurd p2 y2), q⟩
      · have t := t.2 p2
        obtain ⟨b12, t⟩ := t
        obtain ⟨v14, m13, t⟩ := t
        by_cases p3 : (I (x0 + 27) ((((8 : Int32) * x1) + x3)).toNatClampNeg) < v14
        · have t := t.1 p3
          obtain ⟨b16, t⟩ := t
          obtain ⟨v18, m17, t⟩ := t
          by_cases p4 : v18 = 0
          · have t := t.1 p4
            obtain ⟨hf, r, t, q⟩ := t
            exact ⟨hf, r, b_X9_mayBe_229  h_x0 (fun y0 => absurd y0 p0) (fun _ => b3) (fun _ => b4) (fun _ y1 => absurd p1 y1) (fun _ _ => b7) (fun _ _ => m8) (fun _ _ y2 => absurd y2 p2) (fun _ _ _ => b12) (fun _ _ _ => m13) (fun _ _ _ _ => b16) (fun _ _ _ _ => m17) (fun _ _ _ _ _ => t) (fun _ _ _ _ y4 => absurd p4 y4) (fun _ _ _ y3 => absurd p3 y3), q⟩
          · have t := t.2 p4
            exact ⟨_, _, b_X9_mayBe_229  h_x0 (fun y0 => absurd y0 p0) (fun _ => b3) (fun _ => b4) (fun _ y1 => absurd p1 y1) (fun _ _ => b7) (fun _ _ => m8) (fun _ _ y2 => absurd y2 p2) (fun _ _ _ => b12) (fun _ _ _ => m13) (fun _ _ _ _ => b16) (fun _ _ _ _ => m17) (fun _ _ _ _ y4 => absurd y4 p4) (fun _ _ _ _ _ => ⟨rfl, rfl⟩) (fun _ _ _ y3 => absurd p3 y3), t⟩
        · have t := t.2 p3
          obtain ⟨hf, r, t, q⟩ := t
          exact ⟨hf, r, b_X9_mayBe_229 (v18 := 0) h_x0 (fun y0 => absurd y0 p0) (fun _ => b3) (fun _ => b4) (fun _ y1 => absurd p1 y1) (fun _ _ => b7) (fun _ _ => m8) (fun _ _ y2 => absurd y2 p2) (fun _ _ _ => b12) (fun _ _ _ => m13) (fun _ _ _ y3 => absurd y3 p3) (fun _ _ _ y3 => absurd y3 p3) (fun _ _ _ y3 _ => absurd y3 p3) (fun _ _ _ y3 _ => absurd y3 p3) (fun _ _ _ _ => t), q⟩
    · have t := t.2 p1
      obtain ⟨hf, r, t, q⟩ := t
      exact ⟨hf, r, b_X9_mayBe_229 (v9 := 0) (v14 := 0) (v18 := 0) h_x0 (fun y0 => absurd y0 p0) (fun _ => b3) (fun _ => b4) (fun _ _ => t) (fun _ y1 => absurd y1 p1) (fun _ y1 => absurd y1 p1) (fun _ y1 _ => absurd y1 p1) (fun _ y1 _ => absurd y1 p1) (fun _ y1 _ => absurd y1 p1) (fun _ y1 _ _ => absurd y1 p1) (fun _ y1 _ _ => absurd y1 p1) (fun _ y1 _ _ _ => absurd y1 p1) (fun _ y1 _ _ _ => absurd y1 p1) (fun _ y1 _ _ => absurd y1 p1), q⟩
abbrev s_X9_mayBe_179 (γ : rG) (l : Launch) (x0 : Nat) (x1 : Int32) (x2 : Int32) (x3 : Int32) (h : rHeap) (Q : rHeap → Option Value → Prop) : Prop := rW γ l m_X9_mayBe 0 0 179 [some (.ref x0), some (.int x1), some (.int x2), some (.int x3), none, none] [] h Q
theorem w_X9_mayBe_179 {γ : rG} {l : Launch} {Q : rHeap → Option Value → Prop} {sh : Nat × (Nat → Nat) × (Nat → Nat)} {I : Nat → Nat → Int32} {J : Nat → Nat → Int64} {R : Nat → Nat → Option Nat} {x0 : Nat} {x1 : Int32} {x2 : Int32} {x3 : Int32}
    (h_x0 : At9 sh R x0)
    (t : ∃ (v2 : Int32), rMet γ l m_X9_isFlat [.ref x0, .int x1, .int x2] (sh, I, J, R) (sh, I, J, R) (some (.int v2)) ∧ ((v2 = 0 → (rW γ l m_X9_mayBe 0 0 12 [some (.ref x0), some (.int x1), some (.int x2), some (.int (x3 + (1 : Int32))), none, none] [] (sh, I, J, R) Q)) ∧ (¬ v2 = 0 → (∃ (v6 : Int32), rMet γ l m_X9_isFlat [.ref x0, .int x1, .int x3] (sh, I, J, R) (sh, I, J, R) (some (.int v6)) ∧ ((v6 = 0 → (rW γ l m_X9_mayBe 0 0 12 [some (.ref x0), some (.int x1), some (.int x2), some (.int (x3 + (1 : Int32))), none, none] [] (sh, I, J, R) Q)) ∧ (¬ v6 = 0 → (∃ (v10 : Int32), rMet γ l m_X9_isStraight [.ref x0, .int x1, .int x2, .int x3] (sh, I, J, R) (sh, I, J, R) (some (.int v10)) ∧ ((v10 = 0 → (Q (sh, I, J, R) (some (.int (0 : Int32))))) ∧ (¬ v10 = 0 → (rW γ l m_X9_mayBe 0 0 12 [some (.ref x0), some (.int x1), some (.int x2), some (.int (x3 + (1 : Int32))), none, none] [] (sh, I, J, R) Q)))))))))) :
    rW γ l m_X9_mayBe 0 0 179 [some (.ref x0), some (.int x1), some (.int x2), some (.int x3), none, none] [] (sh, I, J, R) Q := by
  obtain ⟨v2, m1, t⟩ := t
  by_cases p0 : v2 = 0
  · have t := t.1 p0
    obtain ⟨hf, r, t, q⟩ := t
    exact ⟨hf, r, b_X9_mayBe_179 (v6 := 0) (v10 := 0) h_x0 m1 (fun _ => t) (fun y0 => absurd p0 y0) (fun y0 _ => absurd p0 y0) (fun y0 _ => absurd p0 y0) (fun y0 _ _ => absurd p0 y0) (fun y0 _ _ => absurd p0 y0), q⟩
  · have t := t.2 p0
    obtain ⟨v6, m5, t⟩ := t
    by_cases p1 : v6 = 0
    · have t := t.1 p1
      obtain ⟨hf, r, t, q⟩ := t
      exact ⟨hf, r, b_X9_mayBe_179 (v10 := 0) h_x0 m1 (fun y0 => absurd y0 p0) (fun _ => m5) (fun _ _ => t) (fun _ y1 => absurd p1 y1) (fun _ y1 _ => absurd p1 y1) (fun _ y1 _ => absurd p1 y1), q⟩
    · have t := t.2 p1
      obtain ⟨v10, m9, t⟩ := t
      by_cases p2 : v10 = 0
      · have t := t.1 p2
        exact ⟨_, _, b_X9_mayBe_179  h_x0 m1 (fun y0 => absurd y0 p0) (fun _ => m5) (fun _ y1 => absurd y1 p1) (fun _ _ => m9) (fun _ _ y2 => absurd p2 y2) (fun _ _ _ => ⟨rfl, rfl⟩), t⟩
      · have t := t.2 p2
        obtain ⟨hf, r, t, q⟩ := t
        exact ⟨hf, r, b_X9_mayBe_179  h_x0 m1 (fun y0 => absurd y0 p0) (fun _ => m5) (fun _ y1 => absurd y1 p1) (fun _ _ => m9) (fun _ _ _ => t) (fun _ _ y2 => absurd y2 p2), q⟩
abbrev s_X9_mayBe_130 (γ : rG) (l : Launch) (x0 : Nat) (x1 : Int32) (x2 : Int32) (x3 : Int32) (h : rHeap) (Q : rHeap → Option Value → Prop) : Prop := rW γ l m_X9_mayBe 0 0 130 [some (.ref x0), some (.int x1), some (.int x2), some (.int x3), none, none] [] h Q
theorem w_X9_mayBe_130 {γ : rG} {l : Launch} {Q : rHeap → Option Value → Prop} {sh : Nat × (Nat → Nat) × (Nat → Nat)} {I : Nat → Nat → Int32} {J : Nat → Nat → Int64} {R : Nat → Nat → Option Nat} {x0 : Nat} {x1 : Int32} {x2 : Int32} {x3 : Int32}
    (h_x0 : At9 sh R x0)
    (t : rW γ l m_X9_mayBe 0 0 131 [some (.ref x0), some (.int x1), some (.int x2), some (.int x3), none, none] [.int (0 : Int32)] (sh, I, J, R) Q) :
    rW γ l m_X9_mayBe 0 0 130 [some (.ref x0), some (.int x1), some (.int x2), some (.int x3), none, none] [] (sh, I, J, R) Q := by
  obtain ⟨hf, r, t, q⟩ := t
  exact ⟨hf, r, b_X9_mayBe_130  h_x0 t, q⟩
abbrev s_X9_mayBe_131 (γ : rG) (l : Launch) (x0 : Nat) (x1 : Int32) (x2 : Int32) (x3 : Int32) (s0 : Int32) (h : rHeap) (Q : rHeap → Option Value → Prop) : Prop := rW γ l m_X9_mayBe 0 0 131 [some (.ref x0), some (.int x1), some (.int x2), some (.int x3), none, none] [.int s0] h Q
theorem w_X9_mayBe_131 {γ : rG} {l : Launch} {Q : rHeap → Option Value → Prop} {sh : Nat × (Nat → Nat) × (Nat → Nat)} {I : Nat → Nat → Int32} {J : Nat → Nat → Int64} {R : Nat → Nat → Option Nat} {x0 : Nat} {x1 : Int32} {x2 : Int32} {x3 : Int32} {s0 : Int32}
    (h_x0 : At9 sh R x0)
    (t : ∃ (v2 : Int32), rMet γ l m_X9_low [.ref x0, .int x1, .int x2] (sh, I, J, R) (sh, I, J, R) (some (.int v2)) ∧ (∃ (v4 : Int32), rMet γ l m_X9_high [.ref x0, .int x1, .int x3] (sh, I, J, R) (sh, I, J, R) (some (.int v4)) ∧ ((v4 ≤ v2 → (rW γ l m_X9_mayBe 0 0 167 [some (.ref x0), some (.int x1), some (.int x2), some (.int x3), some (.int s0), none] [] (sh, I, J, R) Q)) ∧ (¬ v4 ≤ v2 → (∃ (v8 : Int32), rMet γ l m_X9_high [.ref x0, .int x1, .int x3] (sh, I, J, R) (sh, I, J, R) (some (.int v8)) ∧ (∃ (v10 : Int32), rMet γ l m_X9_high [.ref x0, .int x1, .int x2] (sh, I, J, R) (sh, I, J, R) (some (.int v10)) ∧ ((v10 ≤ v8 → (rW γ l m_X9_mayBe 0 0 167 [some (.ref x0), some (.int x1), some (.int x2), some (.int x3), some (.int s0), none] [] (sh, I, J, R) Q)) ∧ (¬ v10 ≤ v8 → (rW γ l m_X9_mayBe 0 0 168 [some (.ref x0), some (.int x1), some (.int x2), some (.int x3), some (.int s0), none] [.int (1 : Int32)] (sh, I, J, R) Q))))))))) :
    rW γ l m_X9_mayBe 0 0 131 [some (.ref x0), some (.int x1), some (.int x2), some (.int x3), none, none] [.int s0] (sh, I, J, R) Q := by
  obtain ⟨v2, m1, t⟩ := t
  obtain ⟨v4, m3, t⟩ := t
  by_cases p0 : v4 ≤ v2
  · have t := t.1 p0
    obtain ⟨hf, r, t, q⟩ := t
    exact ⟨hf, r, b_X9_mayBe_131 (v8 := 0) (v10 := 0) h_x0 m1 m3 (fun _ => t) (fun y0 => absurd p0 y0) (fun y0 => absurd p0 y0) (fun y0 _ => absurd p0 y0) (fun y0 _ => absurd p0 y0), q⟩
  · have t := t.2 p0
    obtain ⟨v8, m7, t⟩ := t
    obtain ⟨v10, m9, t⟩ := t
    by_cases p1 : v10 ≤ v8
    · have t := t.1 p1
      obtain ⟨hf, r, t, q⟩ := t
      exact ⟨hf, r, b_X9_mayBe_131  h_x0 m1 m3 (fun y0 => absurd y0 p0) (fun _ => m7) (fun _ => m9) (fun _ _ => t) (fun _ y1 => absurd p1 y1), q⟩
    · have t := t.2 p1
      obtain ⟨hf, r, t, q⟩ := t
      exact ⟨hf, r, b_X9_mayBe_131  h_x0 m1 m3 (fun y0 => absurd y0 p0) (fun _ => m7) (fun _ => m9) (fun _ y1 => absurd y1 p1) (fun _ _ => t), q⟩
abbrev s_X9_mayBe_167 (γ : rG) (l : Launch) (x0 : Nat) (x1 : Int32) (x2 : Int32) (x3 : Int32) (x4 : Int32) (h : rHeap) (Q : rHeap → Option Value → Prop) : Prop := rW γ l m_X9_mayBe 0 0 167 [some (.ref x0), some (.int x1), some (.int x2), some (.int x3), some (.int x4), none] [] h Q
theorem w_X9_mayBe_167 {γ : rG} {l : Launch} {Q : rHeap → Option Value → Prop} {sh : Nat × (Nat → Nat) × (Nat → Nat)} {I : Nat → Nat → Int32} {J : Nat → Nat → Int64} {R : Nat → Nat → Option Nat} {x0 : Nat} {x1 : Int32} {x2 : Int32} {x3 : Int32} {x4 : Int32}
    (h_x0 : At9 sh R x0)
    (t : rW γ l m_X9_mayBe 0 0 168 [some (.ref x0), some (.int x1), some (.int x2), some (.int x3), some (.int x4), none] [.int (0 : Int32)] (sh, I, J, R) Q) :
    rW γ l m_X9_mayBe 0 0 167 [some (.ref x0), some (.int x1), some (.int x2), some (.int x3), some (.int x4), none] [] (sh, I, J, R) Q := by
  obtain ⟨hf, r, t, q⟩ := t
  exact ⟨hf, r, b_X9_mayBe_167  h_x0 t, q⟩
abbrev s_X9_mayBe_168 (γ : rG) (l : Launch) (x0 : Nat) (x1 : Int32) (x2 : Int32) (x3 : Int32) (x4 : Int32) (s0 : Int32) (h : rHeap) (Q : rHeap → Option Value → Prop) : Prop := rW γ l m_X9_mayBe 0 0 168 [some (.ref x0), some (.int x1), some (.int x2), some (.int x3), some (.int x4), none] [.int s0] h Q
theorem w_X9_mayBe_168 {γ : rG} {l : Launch} {Q : rHeap → Option Value → Prop} {sh : Nat × (Nat → Nat) × (Nat → Nat)} {I : Nat → Nat → Int32} {J : Nat → Nat → Int64} {R : Nat → Nat → Option Nat} {x0 : Nat} {x1 : Int32} {x2 : Int32} {x3 : Int32} {x4 : Int32} {s0 : Int32}
    (h_x0 : At9 sh R x0)
    (t : (x4 = s0 → (rW γ l m_X9_mayBe 0 0 179 [some (.ref x0), some (.int x1), some (.int x2), some (.int x3), none, none] [] (sh, I, J, R) Q)) ∧ (¬ x4 = s0 → (Q (sh, I, J, R) (some (.int (0 : Int32)))))) :
    rW γ l m_X9_mayBe 0 0 168 [some (.ref x0), some (.int x1), some (.int x2), some (.int x3), some (.int x4), none] [.int s0] (sh, I, J, R) Q := by
  by_cases p0 : x4 = s0
  · have t := t.1 p0
    obtain ⟨hf, r, t, q⟩ := t
    exact ⟨hf, r, b_X9_mayBe_168  h_x0 (fun _ => t) (fun y0 => absurd p0 y0), q⟩
  · have t := t.2 p0
    exact ⟨_, _, b_X9_mayBe_168  h_x0 (fun y0 => absurd y0 p0) (fun _ => ⟨rfl, rfl⟩), t⟩
abbrev s_X9_isStraight_0 (γ : rG) (l : Launch) (x0 : Nat) (x1 : Int32) (x2 : Int32) (x3 : Int32) (h : rHeap) (Q : rHeap → Option Value → Prop) : Prop := rW γ l m_X9_isStraight 0 0 0 [some (.ref x0), some (.int x1), some (.int x2), some (.int x3), none, none, none, none, none, none] [] h Q
theorem w_X9_isStraight_0 {γ : rG} {l : Launch} {Q : rHeap → Option Value → Prop} {sh : Nat × (Nat → Nat) × (Nat → Nat)} {I : Nat → Nat → Int32} {J : Nat → Nat → Int64} {R : Nat → Nat → Option Nat} {x0 : Nat} {x1 : Int32} {x2 : Int32} {x3 : Int32}
    (h_x0 : At9 sh R x0)
    (t : vp_in ((((8 : Int32) * x1) + x2)) 176 ∧ (vp_in (((((8 : Int32) * x1) + x2) + (1 : Int32))) 176 ∧ (((I (x0 + 26) (((((8 : Int32) * x1) + x2) + (1 : Int32))).toNatClampNeg) ≤ (I (x0 + 26) ((((8 : Int32) * x1) + x2)).toNatClampNeg) → (vp_in (((((8 : Int32) * x1) + x2) + (1 : Int32))) 176 ∧ (rW γ l m_X9_isStraight 0 0 54 [some (.ref x0), some (.int x1), some (.int x2), some (.int x3), none, none, none, none, none, none] [.int (I (x0 + 26) (((((8 : Int32) * x1) + x2) + (1 : Int32))).toNatClampNeg)] (sh, I, J, R) Q))) ∧ (¬ (I (x0 + 26) (((((8 : Int32) * x1) + x2) + (1 : Int32))).toNatClampNeg) ≤ (I (x0 + 26) ((((8 : Int32) * x1) + x2)).toNatClampNeg) → (vp_in ((((8 : Int32) * x1) + x2)) 176 ∧ (rW γ l m_X9_isStraight 0 0 54 [some (.ref x0), some (.int x1), some (.int x2), some (.int x3), none, none, none, none, none, none] [.int (I (x0 + 26) ((((8 : Int32) * x1) + x2)).toNatClampNeg)] (sh, I, J, R) Q)))))) :
    rW γ l m_X9_isStraight 0 0 0 [some (.ref x0), some (.int x1), some (.int x2), some (.int x3), none, none, none, none, none, none] [] (sh, I, J, R) Q := by
  obtain ⟨b1, t⟩ := t
  obtain ⟨b2, t⟩ := t
  by_cases p0 : (I (x0 + 26) (((((8 : Int32) * x1) + x2) + (1 : Int32))).toNatClampNeg) ≤ (I (x0 + 26) ((((8 : Int32) * x1) + x2)).toNatClampNeg)
  · have t := t.1 p0
    obtain ⟨b4, t⟩ := t
    obtain ⟨hf, r, t, q⟩ := t
    exact ⟨hf, r, b_X9_isStraight_0  h_x0 b1 b2 (fun _ => b4) (fun _ => t) (fun y0 => absurd p0 y0) (fun y0 => absurd p0 y0), q⟩
  · have t := t.2 p0
    obtain ⟨b6, t⟩ := t
    obtain ⟨hf, r, t, q⟩ := t
    exact ⟨hf, r, b_X9_isStraight_0  h_x0 b1 b2 (fun y0 => absurd y0 p0) (fun y0 => absurd y0 p0) (fun _ => b6) (fun _ => t), q⟩
abbrev s_X9_isStraight_54 (γ : rG) (l : Launch) (x0 : Nat) (x1 : Int32) (x2 : Int32) (x3 : Int32) (s0 : Int32) (h : rHeap) (Q : rHeap → Option Value → Prop) : Prop := rW γ l m_X9_isStraight 0 0 54 [some (.ref x0), some (.int x1), some (.int x2), some (.int x3), none, none, none, none, none, none] [.int s0] h Q
theorem w_X9_isStraight_54 {γ : rG} {l : Launch} {Q : rHeap → Option Value → Prop} {sh : Nat × (Nat → Nat) × (Nat → Nat)} {I : Nat → Nat → Int32} {J : Nat → Nat → Int64} {R : Nat → Nat → Option Nat} {x0 : Nat} {x1 : Int32} {x2 : Int32} {x3 : Int32} {s0 : Int32}
    (h_x0 : At9 sh R x0)
    (t : vp_in ((((8 : Int32) * x1) + x3)) 176 ∧ (vp_in (((((8 : Int32) * x1) + x3) + (1 : Int32))) 176 ∧ (((I (x0 + 26) (((((8 : Int32) * x1) + x3) + (1 : Int32))).toNatClampNeg) ≤ (I (x0 + 26) ((((8 : Int32) * x1) + x3)).toNatClampNeg) → (vp_in (((((8 : Int32) * x1) + x3) + (1 : Int32))) 176 ∧ (rW γ l m_X9_isStraight 0 0 110 [some (.ref x0), some (.int x1), some (.int x2), some (.int x3), some (.int s0), none, none, none, none, none] [.int (I (x0 + 26) (((((8 : Int32) * x1) + x3) + (1 : Int32))).toNatClampNeg)] (sh, I, J, R) Q))) ∧ (¬ (I (x0 + 26) (((((8 : Int32) * x1) + x3) + (1 : Int32))).toNatClampNeg) ≤ (I (x0 + 26) ((((8 : Int32) * x1) + x3)).toNatClampNeg) → (vp_in ((((8 : Int32) * x1) + x3)) 176 ∧ (rW γ l m_X9_isStraight 0 0 110 [some (.ref x0), some (.int x1), some (.int x2), some (.int x3), some (.int s0), none, none, none, none, none] [.int (I (x0 + 26) ((((8 : Int32) * x1) + x3)).toNatClampNeg)] (sh, I, J, R) Q)))))) :
    rW γ l m_X9_isStraight 0 0 54 [some (.ref x0), some (.int x1), some (.int x2), some (.int x3), none, none, none, none, none, none] [.int s0] (sh, I, J, R) Q := by
  obtain ⟨b1, t⟩ := t
  obtain ⟨b2, t⟩ := t
  by_cases p0 : (I (x0 + 26) (((((8 : Int32) * x1) + x3) + (1 : Int32))).toNatClampNeg) ≤ (I (x0 + 26) ((((8 : Int32) * x1) + x3)).toNatClampNeg)
  · have t := t.1 p0
    obtain ⟨b4, t⟩ := t
    obtain ⟨hf, r, t, q⟩ := t
    exact ⟨hf, r, b_X9_isStraight_54  h_x0 b1 b2 (fun _ => b4) (fun _ => t) (fun y0 => absurd p0 y0) (fun y0 => absurd p0 y0), q⟩
  · have t := t.2 p0
    obtain ⟨b6, t⟩ := t
    obtain ⟨hf, r, t, q⟩ := t
    exact ⟨hf, r, b_X9_isStraight_54  h_x0 b1 b2 (fun y0 => absurd y0 p0) (fun y0 => absurd y0 p0) (fun _ => b6) (fun _ => t), q⟩
abbrev s_X9_isStraight_110 (γ : rG) (l : Launch) (x0 : Nat) (x1 : Int32) (x2 : Int32) (x3 : Int32) (x4 : Int32) (s0 : Int32) (h : rHeap) (Q : rHeap → Option Value → Prop) : Prop := rW γ l m_X9_isStraight 0 0 110 [some (.ref x0), some (.int x1), some (.int x2), some (.int x3), some (.int x4), none, none, none, none, none] [.int s0] h Q
theorem w_X9_isStraight_110 {γ : rG} {l : Launch} {Q : rHeap → Option Value → Prop} {sh : Nat × (Nat → Nat) × (Nat → Nat)} {I : Nat → Nat → Int32} {J : Nat → Nat → Int64} {R : Nat → Nat → Option Nat} {x0 : Nat} {x1 : Int32} {x2 : Int32} {x3 : Int32} {x4 : Int32} {s0 : Int32}
    (h_x0 : At9 sh R x0)
    (t : (x4 = s0 → (vp_in ((((8 : Int32) * x1) + x2)) 176 ∧ (((I (x0 + 26) ((((8 : Int32) * x1) + x2)).toNatClampNeg) = x4 → (rW γ l m_X9_isStraight 0 0 144 [some (.ref x0), some (.int x1), some (.int x2), some (.int x3), some (.int x4), none, none, none, none, none] [.int x2] (sh, I, J, R) Q)) ∧ (¬ (I (x0 + 26) ((((8 : Int32) * x1) + x2)).toNatClampNeg) = x4 → (rW γ l m_X9_isStraight 0 0 144 [some (.ref x0), some (.int x1), some (.int x2), some (.int x3), some (.int x4), none, none, none, none, none] [.int (x2 + (1 : Int32))] (sh, I, J, R) Q))))) ∧ (¬ x4 = s0 → (Q (sh, I, J, R) (some (.int (1 : Int32)))))) :
    rW γ l m_X9_isStraight 0 0 110 [some (.ref x0), some (.int x1), some (.int x2), some (.int x3), some (.int x4), none, none, none, none, none] [.int s0] (sh, I, J, R) Q := by
  by_cases p0 : x4 = s0
  · have t := t.1 p0
    obtain ⟨b2, t⟩ := t
    by_cases p1 : (I (x0 + 26) ((((8 : Int32) * x1) + x2)).toNatClampNeg) = x4
    · have t := t.1 p1
      obtain ⟨hf, r, t, q⟩ := t
      exact ⟨hf, r, b_X9_isStraight_110  h_x0 (fun _ => b2) (fun _ y1 => absurd p1 y1) (fun _ _ => t) (fun y0 => absurd p0 y0), q⟩
    · have t := t.2 p1
      obtain ⟨hf, r, t, q⟩ := t
      exact ⟨hf, r, b_X9_isStraight_110  h_x0 (fun _ => b2) (fun _ _ => t) (fun _ y1 => absurd y1 p1) (fun y0 => absurd p0 y0), q⟩
  · have t := t.2 p0
    exact ⟨_, _, b_X9_isStraight_110  h_x0 (fun y0 => absurd y0 p0) (fun y0 _ => absurd y0 p0) (fun y0 _ => absurd y0 p0) (fun _ => ⟨rfl, rfl⟩), t⟩
abbrev s_X9_isStraight_144 (γ : rG) (l : Launch) (x0 : Nat) (x1 : Int32) (x2 : Int32) (x3 : Int32) (x4 : Int32) (s0 : Int32) (h : rHeap) (Q : rHeap → Option Value → Prop) : Prop := rW γ l m_X9_isStraight 0 0 144 [some (.ref x0), some (.int x1), some (.int x2), some (.int x3), some (.int x4), none, none, none, none, none] [.int s0] h Q
theorem w_X9_isStraight_144 {γ : rG} {l : Launch} {Q : rHeap → Option Value → Prop} {sh : Nat × (Nat → Nat) × (Nat → Nat)} {I : Nat → Nat → Int32} {J : Nat → Nat → Int64} {R : Nat → Nat → Option Nat} {x0 : Nat} {x1 : Int32} {x2 : Int32} {x3 : Int32} {x4 : Int32} {s0 : Int32}
    (h_x0 : At9 sh R x0)
    (t : vp_in ((((8 : Int32) * x1) + x3)) 176 ∧ (((I (x0 + 26) ((((8 : Int32) * x1) + x3)).toNatClampNeg) = x4 → (rW γ l m_X9_isStraight 0 0 169 [some (.ref x0), some (.int x1), some (.int x2), some (.int x3), none, none, some (.int s0), none, none, none] [.int x3] (sh, I, J, R) Q)) ∧ (¬ (I (x0 + 26) ((((8 : Int32) * x1) + x3)).toNatClampNeg) = x4 → (rW γ l m_X9_isStraight 0 0 169 [some (.ref x0), some (.int x1), some (.int x2), some (.int x3), none, none, some (.int s0), none, none, none] [.int (x3 + (1 : Int32))] (sh, I, J, R) Q)))) :
    rW γ l m_X9_isStraight 0 0 144 [some (.ref x0), some (.int x1), some (.int x2), some (.int x3), some (.int x4), none, none, none, none, none] [.int s0] (sh, I, J, R) Q := by
  obtain ⟨b1, t⟩ := t
  by_cases p0 : (I (x0 + 26) ((((8 : Int32) * x1) + x3)).toNatClampNeg) = x4
  · have t := t.1 p0
    obtain ⟨hf, r, t, q⟩ := t
    exact ⟨hf, r, b_X9_isStraight_144  h_x0 b1 (fun y0 => absurd p0 y0) (fun _ => t), q⟩
  · have t := t.2 p0
    obtain ⟨hf, r, t, q⟩ := t
    exact ⟨hf, r, b_X9_isStraight_144  h_x0 b1 (fun _ => t) (fun y0 => absurd y0 p0), q⟩
abbrev s_X9_isStraight_169 (γ : rG) (l : Launch) (x0 : Nat) (x1 : Int32) (x2 : Int32) (x3 : Int32) (x6 : Int32) (s0 : Int32) (h : rHeap) (Q : rHeap → Option Value → Prop) : Prop := rW γ l m_X9_isStraight 0 0 169 [some (.ref x0), some (.int x1), some (.int x2), some (.int x3), none, none, some (.int x6), none, none, none] [.int s0] h Q
theorem w_X9_isStraight_169 {γ : rG} {l : Launch} {Q : rHeap → Option Value → Prop} {sh : Nat × (Nat → Nat) × (Nat → Nat)} {I : Nat → Nat → Int32} {J : Nat → Nat → Int64} {R : Nat → Nat → Option Nat} {x0 : Nat} {x1 : Int32} {x2 : Int32} {x3 : Int32} {x6 : Int32} {s0 : Int32}
    (h_x0 : At9 sh R x0)
    (t : vp_in ((((8 : Int32) * x1) + x6)) 176 ∧ (vp_in ((((8 : Int32) * x1) + s0)) 176 ∧ (((I (x0 + 27) ((((8 : Int32) * x1) + s0)).toNatClampNeg) ≤ (I (x0 + 27) ((((8 : Int32) * x1) + x6)).toNatClampNeg) → (rW γ l m_X9_isStraight 0 0 223 [some (.ref x0), some (.int x1), none, none, none, none, none, none, some (.int ((((2 : Int32) * x2) + (1 : Int32)) - x6)), some (.int ((((2 : Int32) * x3) + (1 : Int32)) - s0))] [.int (0 : Int32)] (sh, I, J, R) Q)) ∧ (¬ (I (x0 + 27) ((((8 : Int32) * x1) + s0)).toNatClampNeg) ≤ (I (x0 + 27) ((((8 : Int32) * x1) + x6)).toNatClampNeg) → (rW γ l m_X9_isStraight 0 0 223 [some (.ref x0), some (.int x1), none, none, none, none, none, none, some (.int ((((2 : Int32) * x2) + (1 : Int32)) - x6)), some (.int ((((2 : Int32) * x3) + (1 : Int32)) - s0))] [.int (1 : Int32)] (sh, I, J, R) Q))))) :
    rW γ l m_X9_isStraight 0 0 169 [some (.ref x0), some (.int x1), some (.int x2), some (.int x3), none, none, some (.int x6), none, none, none] [.int s0] (sh, I, J, R) Q := by
  obtain ⟨b1, t⟩ := t
  obtain ⟨b2, t⟩ := t
  by_cases p0 : (I (x0 + 27) ((((8 : Int32) * x1) + s0)).toNatClampNeg) ≤ (I (x0 + 27) ((((8 : Int32) * x1) + x6)).toNatClampNeg)
  · have t := t.1 p0
    obtain ⟨hf, r, t, q⟩ := t
    exact ⟨hf, r, b_X9_isStraight_169  h_x0 b1 b2 (fun _ => t) (fun y0 => absurd p0 y0), q⟩
  · have t := t.2 p0
    obtain ⟨hf, r, t, q⟩ := t
    exact ⟨hf, r, b_X9_isStraight_169  h_x0 b1 b2 (fun y0 => absurd y0 p0) (fun _ => t), q⟩
abbrev s_X9_isStraight_223 (γ : rG) (l : Launch) (x0 : Nat) (x1 : Int32) (x8 : Int32) (x9 : Int32) (s0 : Int32) (h : rHeap) (Q : rHeap → Option Value → Prop) : Prop := rW γ l m_X9_isStraight 0 0 223 [some (.ref x0), some (.int x1), none, none, none, none, none, none, some (.int x8), some (.int x9)] [.int s0] h Q
theorem w_X9_isStraight_223 {γ : rG} {l : Launch} {Q : rHeap → Option Value → Prop} {sh : Nat × (Nat → Nat) × (Nat → Nat)} {I : Nat → Nat → Int32} {J : Nat → Nat → Int64} {R : Nat → Nat → Option Nat} {x0 : Nat} {x1 : Int32} {x8 : Int32} {x9 : Int32} {s0 : Int32}
    (h_x0 : At9 sh R x0)
    (t : vp_in ((((8 : Int32) * x1) + x8)) 176 ∧ (vp_in ((((8 : Int32) * x1) + x9)) 176 ∧ (((I (x0 + 27) ((((8 : Int32) * x1) + x9)).toNatClampNeg) ≤ (I (x0 + 27) ((((8 : Int32) * x1) + x8)).toNatClampNeg) → ((s0 = (0 : Int32) → (Q (sh, I, J, R) (some (.int (1 : Int32))))) ∧ (¬ s0 = (0 : Int32) → (Q (sh, I, J, R) (some (.int (0 : Int32))))))) ∧ (¬ (I (x0 + 27) ((((8 : Int32) * x1) + x9)).toNatClampNeg) ≤ (I (x0 + 27) ((((8 : Int32) * x1) + x8)).toNatClampNeg) → ((s0 = (1 : Int32) → (Q (sh, I, J, R) (some (.int (1 : Int32))))) ∧ (¬ s0 = (1 : Int32) → (Q (sh, I, J, R) (some (.int (0 : Int32)))))))))) :
    rW γ l m_X9_isStraight 0 0 223 [some (.ref x0), some (.int x1), none, none, none, none, none, none, some (.int x8), some (.int x9)] [.int s0] (sh, I, J, R) Q := by
  obtain ⟨b1, t⟩ := t
  obtain ⟨b2, t⟩ := t
  by_cases p0 : (I (x0 + 27) ((((8 : Int32) * x1) + x9)).toNatClampNeg) ≤ (I (x0 + 27) ((((8 : Int32) * x1) + x8)).toNatClampNeg)
  · have t := t.1 p0
    by_cases p1 : s0 = (0 : Int32)
    · have t := t.1 p1
      exact ⟨_, _, b_X9_isStraight_223  h_x0 b1 b2 (fun _ y1 => absurd p1 y1) (fun _ _ => ⟨rfl, rfl⟩) (fun y0 _ => absurd p0 y0) (fun y0 _ => absurd p0 y0), t⟩
    · have t := t.2 p1
      exact ⟨_, _, b_X9_isStraight_223  h_x0 b1 b2 (fun _ _ => ⟨rfl, rfl⟩) (fun _ y1 => absurd y1 p1) (fun y0 _ => absurd p0 y0) (fun y0 _ => absurd p0 y0), t⟩
  · have t := t.2 p0
    by_cases p1 : s0 = (1 : Int32)
    · have t := t.1 p1
      exact ⟨_, _, b_X9_isStraight_223  h_x0 b1 b2 (fun y0 _ => absurd y0 p0) (fun y0 _ => absurd y0 p0) (fun _ y1 => absurd p1 y1) (fun _ _ => ⟨rfl, rfl⟩), t⟩
    · have t := t.2 p1
      exact ⟨_, _, b_X9_isStraight_223  h_x0 b1 b2 (fun y0 _ => absurd y0 p0) (fun y0 _ => absurd y0 p0) (fun _ _ => ⟨rfl, rfl⟩) (fun _ y1 => absurd y1 p1), t⟩
abbrev s_X9_sheet_0 (γ : rG) (l : Launch) (x0 : Nat) (x1 : Int32) (h : rHeap) (Q : rHeap → Option Value → Prop) : Prop := rW γ l m_X9_sheet 0 0 0 [some (.ref x0), some (.int x1), none] [] h Q
theorem w_X9_sheet_0 {γ : rG} {l : Launch} {Q : rHeap → Option Value → Prop} {sh : Nat × (Nat → Nat) × (Nat → Nat)} {I : Nat → Nat → Int32} {J : Nat → Nat → Int64} {R : Nat → Nat → Option Nat} {x0 : Nat} {x1 : Int32}
    (h_x0 : At9 sh R x0)
    (t : (x1 < (2 : Int32) → (Q (sh, I, J, R) (some (.int (0 : Int32))))) ∧ (¬ x1 < (2 : Int32) → ((x1 ≤ (8 : Int32) → (∃ (I4 : Nat → Nat → Int32), rMet γ l m_X9_flat [.ref x0, .int (0 : Int32)] (sh, (up (up I x0 39 x1) x0 48 (0 : Int32)), J, R) (sh, I4, J, R) none ∧ (rW γ l m_X9_sheet 0 0 30 [some (.ref x0), none, some (.int (0 : Int32))] [] (sh, I4, J, R) Q))) ∧ (¬ x1 ≤ (8 : Int32) → (Q (sh, I, J, R) (some (.int (0 : Int32)))))))) :
    rW γ l m_X9_sheet 0 0 0 [some (.ref x0), some (.int x1), none] [] (sh, I, J, R) Q := by
  by_cases p0 : x1 < (2 : Int32)
  · have t := t.1 p0
    exact ⟨_, _, b_X9_sheet_0 (I4 := I) h_x0 (fun _ => ⟨rfl, rfl⟩) (fun y0 _ => absurd p0 y0) (fun y0 _ => absurd p0 y0) (fun y0 _ => absurd p0 y0), t⟩
  · have t := t.2 p0
    by_cases p1 : x1 ≤ (8 : Int32)
    · have t := t.1 p1
      obtain ⟨I4, m5, t⟩ := t
      obtain ⟨hf, r, t, q⟩ := t
      exact ⟨hf, r, b_X9_sheet_0  h_x0 (fun y0 => absurd y0 p0) (fun _ _ => m5) (fun _ _ => t) (fun _ y1 => absurd p1 y1), q⟩
    · have t := t.2 p1
      exact ⟨_, _, b_X9_sheet_0 (I4 := I) h_x0 (fun y0 => absurd y0 p0) (fun _ y1 => absurd y1 p1) (fun _ y1 => absurd y1 p1) (fun _ _ => ⟨rfl, rfl⟩), t⟩
abbrev s_X9_sheet_30 (γ : rG) (l : Launch) (x0 : Nat) (x2 : Int32) (h : rHeap) (Q : rHeap → Option Value → Prop) : Prop := rW γ l m_X9_sheet 0 0 30 [some (.ref x0), none, some (.int x2)] [] h Q
theorem w_X9_sheet_30 {γ : rG} {l : Launch} {Q : rHeap → Option Value → Prop} {sh : Nat × (Nat → Nat) × (Nat → Nat)} {I : Nat → Nat → Int32} {J : Nat → Nat → Int64} {R : Nat → Nat → Option Nat} {x0 : Nat} {x2 : Int32}
    (h_x0 : At9 sh R x0)
    (t : ((8 : Int32) ≤ x2 → (rW γ l m_X9_sheet 0 0 65 [some (.ref x0), none, some (.int (0 : Int32))] [] (sh, I, J, R) Q)) ∧ (¬ (8 : Int32) ≤ x2 → (vp_in x2 8 ∧ (vp_in x2 8 ∧ (vp_in x2 8 ∧ (rW γ l m_X9_sheet 0 0 30 [some (.ref x0), none, some (.int (x2 + (1 : Int32)))] [] (sh, (up (up (up I (x0 + 29) x2.toNatClampNeg (0 : Int32)) (x0 + 30) x2.toNatClampNeg (0 : Int32)) (x0 + 31) x2.toNatClampNeg (0 : Int32)), J, R) Q)))))) :
    rW γ l m_X9_sheet 0 0 30 [some (.ref x0), none, some (.int x2)] [] (sh, I, J, R) Q := by
  by_cases p0 : (8 : Int32) ≤ x2
  · have t := t.1 p0
    obtain ⟨hf, r, t, q⟩ := t
    exact ⟨hf, r, b_X9_sheet_30  h_x0 (fun _ => t) (fun y0 => absurd p0 y0) (fun y0 => absurd p0 y0) (fun y0 => absurd p0 y0) (fun y0 => absurd p0 y0), q⟩
  · have t := t.2 p0
    obtain ⟨b3, t⟩ := t
    obtain ⟨b4, t⟩ := t
    obtain ⟨b5, t⟩ := t
    obtain ⟨hf, r, t, q⟩ := t
    exact ⟨hf, r, b_X9_sheet_30  h_x0 (fun y0 => absurd y0 p0) (fun _ => b3) (fun _ => b4) (fun _ => b5) (fun _ => t), q⟩
abbrev s_X9_sheet_65 (γ : rG) (l : Launch) (x0 : Nat) (x2 : Int32) (h : rHeap) (Q : rHeap → Option Value → Prop) : Prop := rW γ l m_X9_sheet 0 0 65 [some (.ref x0), none, some (.int x2)] [] h Q
theorem w_X9_sheet_65 {γ : rG} {l : Launch} {Q : rHeap → Option Value → Prop} {sh : Nat × (Nat → Nat) × (Nat → Nat)} {I : Nat → Nat → Int32} {J : Nat → Nat → Int64} {R : Nat → Nat → Option Nat} {x0 : Nat} {x2 : Int32}
    (h_x0 : At9 sh R x0)
    (t : ((16 : Int32) ≤ x2 → (∃ (I2 : Nat → Nat → Int32), rMet γ l m_X9_forgets [.ref x0] (sh, I, J, R) (sh, I2, J, R) none ∧ (Q (sh, I2, J, R) (some (.int (1 : Int32)))))) ∧ (¬ (16 : Int32) ≤ x2 → (vp_in x2 16 ∧ (rW γ l m_X9_sheet 0 0 65 [some (.ref x0), none, some (.int (x2 + (1 : Int32)))] [] (sh, (up I (x0 + 32) x2.toNatClampNeg (vp_nar .boolean (0 : Int32))), J, R) Q)))) :
    rW γ l m_X9_sheet 0 0 65 [some (.ref x0), none, some (.int x2)] [] (sh, I, J, R) Q := by
  by_cases p0 : (16 : Int32) ≤ x2
  · have t := t.1 p0
    obtain ⟨I2, m3, t⟩ := t
    exact ⟨_, _, b_X9_sheet_65  h_x0 (fun _ => m3) (fun _ => ⟨rfl, rfl⟩) (fun y0 => absurd p0 y0) (fun y0 => absurd p0 y0), t⟩
  · have t := t.2 p0
    obtain ⟨b5, t⟩ := t
    obtain ⟨hf, r, t, q⟩ := t
    exact ⟨hf, r, b_X9_sheet_65 (I2 := I) h_x0 (fun y0 => absurd y0 p0) (fun y0 => absurd y0 p0) (fun _ => b5) (fun _ => t), q⟩
abbrev s_X9_acted_0 (γ : rG) (l : Launch) (x0 : Nat) (x1 : Int32) (x2 : Int32) (x3 : Int32) (x4 : Int32) (x5 : Int32) (h : rHeap) (Q : rHeap → Option Value → Prop) : Prop := rW γ l m_X9_acted 0 0 0 [some (.ref x0), some (.int x1), some (.int x2), some (.int x3), some (.int x4), some (.int x5)] [] h Q
theorem w_X9_acted_0 {γ : rG} {l : Launch} {Q : rHeap → Option Value → Prop} {sh : Nat × (Nat → Nat) × (Nat → Nat)} {I : Nat → Nat → Int32} {J : Nat → Nat → Int64} {R : Nat → Nat → Option Nat} {x0 : Nat} {x1 : Int32} {x2 : Int32} {x3 : Int32} {x4 : Int32} {x5 : Int32}
    (h_x0 : At9 sh R x0)
    (t : vp_in (I x0 48) 16 ∧ (vp_in (((up I (x0 + 33) (I x0 48).toNatClampNeg x1) x0 48)) 16 ∧ (vp_in (((up (up I (x0 + 33) (I x0 48).toNatClampNeg x1) (x0 + 34) (((up I (x0 + 33) (I x0 48).toNatClampNeg x1) x0 48)).toNatClampNeg x2) x0 48)) 16 ∧ (vp_in (((up (up (up I (x0 + 33) (I x0 48).toNatClampNeg x1) (x0 + 34) (((up I (x0 + 33) (I x0 48).toNatClampNeg x1) x0 48)).toNatClampNeg x2) (x0 + 35) (((up (up I (x0 + 33) (I x0 48).toNatClampNeg x1) (x0 + 34) (((up I (x0 + 33) (I x0 48).toNatClampNeg x1) x0 48)).toNatClampNeg x2) x0 48)).toNatClampNeg x3) x0 48)) 16 ∧ (vp_in (((up (up (up (up I (x0 + 33) (I x0 48).toNatClampNeg x1) (x0 + 34) (((up I (x0 + 33) (I x0 48).toNatClampNeg x1) x0 48)).toNatClampNeg x2) (x0 + 35) (((up (up I (x0 + 33) (I x0 48).toNatClampNeg x1) (x0 + 34) (((up I (x0 + 33) (I x0 48).toNatClampNeg x1) x0 48)).toNatClampNeg x2) x0 48)).toNatClampNeg x3) (x0 + 36) (((up (up (up I (x0 + 33) (I x0 48).toNatClampNeg x1) (x0 + 34) (((up I (x0 + 33) (I x0 48).toNatClampNeg x1) x0 48)).toNatClampNeg x2) (x0 + 35) (((up (up I (x0 + 33) (I x0 48).toNatClampNeg x1) (x0 + 34) (((up I (x0 + 33) (I x0 48).toNatClampNeg x1) x0 48)).toNatClampNeg x2) x0 48)).toNatClampNeg x3) x0 48)).toNatClampNeg x4) x0 48)) 16 ∧ (Q (sh, (up (up (up (up (up (up I (x0 + 33) (I x0 48).toNatClampNeg x1) (x0 + 34) (((up I (x0 + 33) (I x0 48).toNatClampNeg x1) x0 48)).toNatClampNeg x2) (x0 + 35) (((up (up I (x0 + 33) (I x0 48).toNatClampNeg x1) (x0 + 34) (((up I (x0 + 33) (I x0 48).toNatClampNeg x1) x0 48)).toNatClampNeg x2) x0 48)).toNatClampNeg x3) (x0 + 36) (((up (up (up I (x0 + 33) (I x0 48).toNatClampNeg x1) (x0 + 34) (((up I (x0 + 33) (I x0 48).toNatClampNeg x1) x0 48)).toNatClampNeg x2) (x0 + 35) (((up (up I (x0 + 33) (I x0 48).toNatClampNeg x1) (x0 + 34) (((up I (x0 + 33) (I x0 48).toNatClampNeg x1) x0 48)).toNatClampNeg x2) x0 48)).toNatClampNeg x3) x0 48)).toNatClampNeg x4) (x0 + 37) (((up (up (up (up I (x0 + 33) (I x0 48).toNatClampNeg x1) (x0 + 34) (((up I (x0 + 33) (I x0 48).toNatClampNeg x1) x0 48)).toNatClampNeg x2) (x0 + 35) (((up (up I (x0 + 33) (I x0 48).toNatClampNeg x1) (x0 + 34) (((up I (x0 + 33) (I x0 48).toNatClampNeg x1) x0 48)).toNatClampNeg x2) x0 48)).toNatClampNeg x3) (x0 + 36) (((up (up (up I (x0 + 33) (I x0 48).toNatClampNeg x1) (x0 + 34) (((up I (x0 + 33) (I x0 48).toNatClampNeg x1) x0 48)).toNatClampNeg x2) (x0 + 35) (((up (up I (x0 + 33) (I x0 48).toNatClampNeg x1) (x0 + 34) (((up I (x0 + 33) (I x0 48).toNatClampNeg x1) x0 48)).toNatClampNeg x2) x0 48)).toNatClampNeg x3) x0 48)).toNatClampNeg x4) x0 48)).toNatClampNeg x5) x0 48 ((((up (up (up (up (up I (x0 + 33) (I x0 48).toNatClampNeg x1) (x0 + 34) (((up I (x0 + 33) (I x0 48).toNatClampNeg x1) x0 48)).toNatClampNeg x2) (x0 + 35) (((up (up I (x0 + 33) (I x0 48).toNatClampNeg x1) (x0 + 34) (((up I (x0 + 33) (I x0 48).toNatClampNeg x1) x0 48)).toNatClampNeg x2) x0 48)).toNatClampNeg x3) (x0 + 36) (((up (up (up I (x0 + 33) (I x0 48).toNatClampNeg x1) (x0 + 34) (((up I (x0 + 33) (I x0 48).toNatClampNeg x1) x0 48)).toNatClampNeg x2) (x0 + 35) (((up (up I (x0 + 33) (I x0 48).toNatClampNeg x1) (x0 + 34) (((up I (x0 + 33) (I x0 48).toNatClampNeg x1) x0 48)).toNatClampNeg x2) x0 48)).toNatClampNeg x3) x0 48)).toNatClampNeg x4) (x0 + 37) (((up (up (up (up I (x0 + 33) (I x0 48).toNatClampNeg x1) (x0 + 34) (((up I (x0 + 33) (I x0 48).toNatClampNeg x1) x0 48)).toNatClampNeg x2) (x0 + 35) (((up (up I (x0 + 33) (I x0 48).toNatClampNeg x1) (x0 + 34) (((up I (x0 + 33) (I x0 48).toNatClampNeg x1) x0 48)).toNatClampNeg x2) x0 48)).toNatClampNeg x3) (x0 + 36) (((up (up (up I (x0 + 33) (I x0 48).toNatClampNeg x1) (x0 + 34) (((up I (x0 + 33) (I x0 48).toNatClampNeg x1) x0 48)).toNatClampNeg x2) (x0 + 35) (((up (up I (x0 + 33) (I x0 48).toNatClampNeg x1) (x0 + 34) (((up I (x0 + 33) (I x0 48).toNatClampNeg x1) x0 48)).toNatClampNeg x2) x0 48)).toNatClampNeg x3) x0 48)).toNatClampNeg x4) x0 48)).toNatClampNeg x5) x0 48) + (1 : Int32)))), J, R) (some (.int ((((up (up (up (up (up (up I (x0 + 33) (I x0 48).toNatClampNeg x1) (x0 + 34) (((up I (x0 + 33) (I x0 48).toNatClampNeg x1) x0 48)).toNatClampNeg x2) (x0 + 35) (((up (up I (x0 + 33) (I x0 48).toNatClampNeg x1) (x0 + 34) (((up I (x0 + 33) (I x0 48).toNatClampNeg x1) x0 48)).toNatClampNeg x2) x0 48)).toNatClampNeg x3) (x0 + 36) (((up (up (up I (x0 + 33) (I x0 48).toNatClampNeg x1) (x0 + 34) (((up I (x0 + 33) (I x0 48).toNatClampNeg x1) x0 48)).toNatClampNeg x2) (x0 + 35) (((up (up I (x0 + 33) (I x0 48).toNatClampNeg x1) (x0 + 34) (((up I (x0 + 33) (I x0 48).toNatClampNeg x1) x0 48)).toNatClampNeg x2) x0 48)).toNatClampNeg x3) x0 48)).toNatClampNeg x4) (x0 + 37) (((up (up (up (up I (x0 + 33) (I x0 48).toNatClampNeg x1) (x0 + 34) (((up I (x0 + 33) (I x0 48).toNatClampNeg x1) x0 48)).toNatClampNeg x2) (x0 + 35) (((up (up I (x0 + 33) (I x0 48).toNatClampNeg x1) (x0 + 34) (((up I (x0 + 33) (I x0 48).toNatClampNeg x1) x0 48)).toNatClampNeg x2) x0 48)).toNatClampNeg x3) (x0 + 36) (((up (up (up I (x0 + 33) (I x0 48).toNatClampNeg x1) (x0 + 34) (((up I (x0 + 33) (I x0 48).toNatClampNeg x1) x0 48)).toNatClampNeg x2) (x0 + 35) (((up (up I (x0 + 33) (I x0 48).toNatClampNeg x1) (x0 + 34) (((up I (x0 + 33) (I x0 48).toNatClampNeg x1) x0 48)).toNatClampNeg x2) x0 48)).toNatClampNeg x3) x0 48)).toNatClampNeg x4) x0 48)).toNatClampNeg x5) x0 48 ((((up (up (up (up (up I (x0 + 33) (I x0 48).toNatClampNeg x1) (x0 + 34) (((up I (x0 + 33) (I x0 48).toNatClampNeg x1) x0 48)).toNatClampNeg x2) (x0 + 35) (((up (up I (x0 + 33) (I x0 48).toNatClampNeg x1) (x0 + 34) (((up I (x0 + 33) (I x0 48).toNatClampNeg x1) x0 48)).toNatClampNeg x2) x0 48)).toNatClampNeg x3) (x0 + 36) (((up (up (up I (x0 + 33) (I x0 48).toNatClampNeg x1) (x0 + 34) (((up I (x0 + 33) (I x0 48).toNatClampNeg x1) x0 48)).toNatClampNeg x2) (x0 + 35) (((up (up I (x0 + 33) (I x0 48).toNatClampNeg x1) (x0 + 34) (((up I (x0 + 33) (I x0 48).toNatClampNeg x1) x0 48)).toNatClampNeg x2) x0 48)).toNatClampNeg x3) x0 48)).toNatClampNeg x4) (x0 + 37) (((up (up (up (up I (x0 + 33) (I x0 48).toNatClampNeg x1) (x0 + 34) (((up I (x0 + 33) (I x0 48).toNatClampNeg x1) x0 48)).toNatClampNeg x2) (x0 + 35) (((up (up I (x0 + 33) (I x0 48).toNatClampNeg x1) (x0 + 34) (((up I (x0 + 33) (I x0 48).toNatClampNeg x1) x0 48)).toNatClampNeg x2) x0 48)).toNatClampNeg x3) (x0 + 36) (((up (up (up I (x0 + 33) (I x0 48).toNatClampNeg x1) (x0 + 34) (((up I (x0 + 33) (I x0 48).toNatClampNeg x1) x0 48)).toNatClampNeg x2) (x0 + 35) (((up (up I (x0 + 33) (I x0 48).toNatClampNeg x1) (x0 + 34) (((up I (x0 + 33) (I x0 48).toNatClampNeg x1) x0 48)).toNatClampNeg x2) x0 48)).toNatClampNeg x3) x0 48)).toNatClampNeg x4) x0 48)).toNatClampNeg x5) x0 48) + (1 : Int32)))) x0 48) - (1 : Int32))))))))))) :
    rW γ l m_X9_acted 0 0 0 [some (.ref x0), some (.int x1), some (.int x2), some (.int x3), some (.int x4), some (.int x5)] [] (sh, I, J, R) Q := by
  obtain ⟨b1, t⟩ := t
  obtain ⟨b2, t⟩ := t
  obtain ⟨b3, t⟩ := t
  obtain ⟨b4, t⟩ := t
  obtain ⟨b5, t⟩ := t
  exact ⟨_, _, b_X9_acted_0  h_x0 b1 b2 b3 b4 b5 ⟨rfl, rfl⟩, t⟩
abbrev s_X9_turnedBy_0 (γ : rG) (l : Launch) (x0 : Nat) (x1 : Int32) (x2 : Int32) (h : rHeap) (Q : rHeap → Option Value → Prop) : Prop := rW γ l m_X9_turnedBy 0 0 0 [some (.ref x0), some (.int x1), some (.int x2), none, none] [] h Q
theorem w_X9_turnedBy_0 {γ : rG} {l : Launch} {Q : rHeap → Option Value → Prop} {sh : Nat × (Nat → Nat) × (Nat → Nat)} {I : Nat → Nat → Int32} {J : Nat → Nat → Int64} {R : Nat → Nat → Option Nat} {x0 : Nat} {x1 : Int32} {x2 : Int32}
    (h_x0 : At9 sh R x0)
    (t : rW γ l m_X9_turnedBy 0 0 5 [some (.ref x0), some (.int x1), some (.int x2), some (.int (0 : Int32)), some (.int (0 : Int32))] [] (sh, I, J, R) Q) :
    rW γ l m_X9_turnedBy 0 0 0 [some (.ref x0), some (.int x1), some (.int x2), none, none] [] (sh, I, J, R) Q := by
  obtain ⟨hf, r, t, q⟩ := t
  exact ⟨hf, r, b_X9_turnedBy_0  h_x0 t, q⟩
abbrev s_X9_turnedBy_5 (γ : rG) (l : Launch) (x0 : Nat) (x1 : Int32) (x2 : Int32) (x3 : Int32) (x4 : Int32) (h : rHeap) (Q : rHeap → Option Value → Prop) : Prop := rW γ l m_X9_turnedBy 0 0 5 [some (.ref x0), some (.int x1), some (.int x2), some (.int x3), some (.int x4)] [] h Q
theorem w_X9_turnedBy_5 {γ : rG} {l : Launch} {Q : rHeap → Option Value → Prop} {sh : Nat × (Nat → Nat) × (Nat → Nat)} {I : Nat → Nat → Int32} {J : Nat → Nat → Int64} {R : Nat → Nat → Option Nat} {x0 : Nat} {x1 : Int32} {x2 : Int32} {x3 : Int32} {x4 : Int32}
    (h_x0 : At9 sh R x0)
    (t : ((I x0 39) ≤ x4 → (Q (sh, I, J, R) (some (.int x3)))) ∧ (¬ (I x0 39) ≤ x4 → (∃ (v4 : Int32), rMet γ l m_X9_turns [.ref x0, .int (I x0 48), .int x4, .int x1, .int x2] (sh, I, J, R) (sh, I, J, R) (some (.int v4)) ∧ ((v4 = 0 → (rW γ l m_X9_turnedBy 0 0 5 [some (.ref x0), some (.int x1), some (.int x2), some (.int x3), some (.int (x4 + (1 : Int32)))] [] (sh, I, J, R) Q)) ∧ (¬ v4 = 0 → (rW γ l m_X9_turnedBy 0 0 5 [some (.ref x0), some (.int x1), some (.int x2), some (.int (x3 + (1 : Int32))), some (.int (x4 + (1 : Int32)))] [] (sh, I, J, R) Q)))))) :
    rW γ l m_X9_turnedBy 0 0 5 [some (.ref x0), some (.int x1), some (.int x2), some (.int x3), some (.int x4)] [] (sh, I, J, R) Q := by
  by_cases p0 : (I x0 39) ≤ x4
  · have t := t.1 p0
    exact ⟨_, _, b_X9_turnedBy_5 (v4 := 0) h_x0 (fun _ => ⟨rfl, rfl⟩) (fun y0 => absurd p0 y0) (fun y0 _ => absurd p0 y0) (fun y0 _ => absurd p0 y0), t⟩
  · have t := t.2 p0
    obtain ⟨v4, m3, t⟩ := t
    by_cases p1 : v4 = 0
    · have t := t.1 p1
      obtain ⟨hf, r, t, q⟩ := t
      exact ⟨hf, r, b_X9_turnedBy_5  h_x0 (fun y0 => absurd y0 p0) (fun _ => m3) (fun _ _ => t) (fun _ y1 => absurd p1 y1), q⟩
    · have t := t.2 p1
      obtain ⟨hf, r, t, q⟩ := t
      exact ⟨hf, r, b_X9_turnedBy_5  h_x0 (fun y0 => absurd y0 p0) (fun _ => m3) (fun _ y1 => absurd y1 p1) (fun _ _ => t), q⟩
abbrev s_X9_leaves_0 (γ : rG) (l : Launch) (x0 : Nat) (x1 : Int32) (h : rHeap) (Q : rHeap → Option Value → Prop) : Prop := rW γ l m_X9_leaves 0 0 0 [some (.ref x0), some (.int x1), none] [] h Q
theorem w_X9_leaves_0 {γ : rG} {l : Launch} {Q : rHeap → Option Value → Prop} {sh : Nat × (Nat → Nat) × (Nat → Nat)} {I : Nat → Nat → Int32} {J : Nat → Nat → Int64} {R : Nat → Nat → Option Nat} {x0 : Nat} {x1 : Int32}
    (h_x0 : At9 sh R x0)
    (t : rW γ l m_X9_leaves 0 0 2 [some (.ref x0), some (.int x1), some (.int (0 : Int32))] [] (sh, I, J, R) Q) :
    rW γ l m_X9_leaves 0 0 0 [some (.ref x0), some (.int x1), none] [] (sh, I, J, R) Q := by
  obtain ⟨hf, r, t, q⟩ := t
  exact ⟨hf, r, b_X9_leaves_0  h_x0 t, q⟩
abbrev s_X9_leaves_2 (γ : rG) (l : Launch) (x0 : Nat) (x1 : Int32) (x2 : Int32) (h : rHeap) (Q : rHeap → Option Value → Prop) : Prop := rW γ l m_X9_leaves 0 0 2 [some (.ref x0), some (.int x1), some (.int x2)] [] h Q
theorem w_X9_leaves_2 {γ : rG} {l : Launch} {Q : rHeap → Option Value → Prop} {sh : Nat × (Nat → Nat) × (Nat → Nat)} {I : Nat → Nat → Int32} {J : Nat → Nat → Int64} {R : Nat → Nat → Option Nat} {x0 : Nat} {x1 : Int32} {x2 : Int32}
    (h_x0 : At9 sh R x0)
    (t : ((7 : Int32) ≤ x2 → (Q (sh, I, J, R) (none))) ∧ (¬ (7 : Int32) ≤ x2 → (vp_in x2 8 ∧ (vp_in x2 8 ∧ (rW γ l m_X9_leaves 0 0 2 [some (.ref x0), some (.int x1), some (.int (x2 + (1 : Int32)))] [] (sh, (up I (x0 + 29) x2.toNatClampNeg (((I (x0 + 29) x2.toNatClampNeg) ||| ((x1 >>> (((2 : Int32) * x2) &&& 31)) &&& (3 : Int32))))), J, R) Q))))) :
    rW γ l m_X9_leaves 0 0 2 [some (.ref x0), some (.int x1), some (.int x2)] [] (sh, I, J, R) Q := by
  by_cases p0 : (7 : Int32) ≤ x2
  · have t := t.1 p0
    exact ⟨_, _, b_X9_leaves_2  h_x0 (fun _ => ⟨rfl, rfl⟩) (fun y0 => absurd p0 y0) (fun y0 => absurd p0 y0) (fun y0 => absurd p0 y0), t⟩
  · have t := t.2 p0
    obtain ⟨b3, t⟩ := t
    obtain ⟨b4, t⟩ := t
    obtain ⟨hf, r, t, q⟩ := t
    exact ⟨hf, r, b_X9_leaves_2  h_x0 (fun y0 => absurd y0 p0) (fun _ => b3) (fun _ => b4) (fun _ => t), q⟩
abbrev s_X9_fold_0 (γ : rG) (l : Launch) (x0 : Nat) (x1 : Int32) (x2 : Int32) (x3 : Int32) (h : rHeap) (Q : rHeap → Option Value → Prop) : Prop := rW γ l m_X9_fold 0 0 0 [some (.ref x0), some (.int x1), some (.int x2), some (.int x3)] [] h Q
theorem w_X9_fold_0 {γ : rG} {l : Launch} {Q : rHeap → Option Value → Prop} {sh : Nat × (Nat → Nat) × (Nat → Nat)} {I : Nat → Nat → Int32} {J : Nat → Nat → Int64} {R : Nat → Nat → Option Nat} {x0 : Nat} {x1 : Int32} {x2 : Int32} {x3 : Int32}
    (h_x0 : At9 sh R x0)
    (t : ((I x0 48) = (16 : Int32) → (Q (sh, I, J, R) (some (.int (-1 : Int32))))) ∧ (¬ (I x0 48) = (16 : Int32) → ((x1 < (1 : Int32) → (Q (sh, I, J, R) (some (.int (-1 : Int32))))) ∧ (¬ x1 < (1 : Int32) → (vp_in (I x0 48) 22 ∧ ((x1 < (I (x0 + 25) (I x0 48).toNatClampNeg) → ((x3 = 0 → (rW γ l m_X9_fold 0 0 52 [some (.ref x0), some (.int x1), some (.int x2), none] [.int (1 : Int32), .int x2, .int x1, .int ((I x0 48) + (1 : Int32)), .int (I x0 48), .ref x0, .ref x0] (sh, I, J, R) Q)) ∧ (¬ x3 = 0 → (rW γ l m_X9_fold 0 0 52 [some (.ref x0), some (.int x1), some (.int x2), none] [.int (0 : Int32), .int x2, .int x1, .int ((I x0 48) + (1 : Int32)), .int (I x0 48), .ref x0, .ref x0] (sh, I, J, R) Q)))) ∧ (¬ x1 < (I (x0 + 25) (I x0 48).toNatClampNeg) → (Q (sh, I, J, R) (some (.int (-1 : Int32))))))))))) :
    rW γ l m_X9_fold 0 0 0 [some (.ref x0), some (.int x1), some (.int x2), some (.int x3)] [] (sh, I, J, R) Q := by
  by_cases p0 : (I x0 48) = (16 : Int32)
  · have t := t.1 p0
    exact ⟨_, _, b_X9_fold_0  h_x0 (fun _ => ⟨rfl, rfl⟩) (fun y0 _ => absurd p0 y0) (fun y0 _ => absurd p0 y0) (fun y0 _ _ _ => absurd p0 y0) (fun y0 _ _ _ => absurd p0 y0) (fun y0 _ _ => absurd p0 y0), t⟩
  · have t := t.2 p0
    by_cases p1 : x1 < (1 : Int32)
    · have t := t.1 p1
      exact ⟨_, _, b_X9_fold_0  h_x0 (fun y0 => absurd y0 p0) (fun _ _ => ⟨rfl, rfl⟩) (fun _ y1 => absurd p1 y1) (fun _ y1 _ _ => absurd p1 y1) (fun _ y1 _ _ => absurd p1 y1) (fun _ y1 _ => absurd p1 y1), t⟩
    · have t := t.2 p1
      obtain ⟨b5, t⟩ := t
      by_cases p2 : x1 < (I (x0 + 25) (I x0 48).toNatClampNeg)
      · have t := t.1 p2
        by_cases p3 : x3 = 0
        · have t := t.1 p3
          obtain ⟨hf, r, t, q⟩ := t
          exact ⟨hf, r, b_X9_fold_0  h_x0 (fun y0 => absurd y0 p0) (fun _ y1 => absurd y1 p1) (fun _ _ => b5) (fun _ _ _ _ => t) (fun _ _ _ y3 => absurd p3 y3) (fun _ _ y2 => absurd p2 y2), q⟩
        · have t := t.2 p3
          obtain ⟨hf, r, t, q⟩ := t
          exact ⟨hf, r, b_X9_fold_0  h_x0 (fun y0 => absurd y0 p0) (fun _ y1 => absurd y1 p1) (fun _ _ => b5) (fun _ _ _ y3 => absurd y3 p3) (fun _ _ _ _ => t) (fun _ _ y2 => absurd p2 y2), q⟩
      · have t := t.2 p2
        exact ⟨_, _, b_X9_fold_0  h_x0 (fun y0 => absurd y0 p0) (fun _ y1 => absurd y1 p1) (fun _ _ => b5) (fun _ _ y2 _ => absurd y2 p2) (fun _ _ y2 _ => absurd y2 p2) (fun _ _ _ => ⟨rfl, rfl⟩), t⟩
abbrev s_X9_fold_52 (γ : rG) (l : Launch) (x0 : Nat) (x1 : Int32) (x2 : Int32) (s0 : Int32) (s1 : Int32) (s2 : Int32) (s3 : Int32) (s4 : Int32) (s5 : Nat) (s6 : Nat) (h : rHeap) (Q : rHeap → Option Value → Prop) : Prop := rW γ l m_X9_fold 0 0 52 [some (.ref x0), some (.int x1), some (.int x2), none] [.int s0, .int s1, .int s2, .int s3, .int s4, .ref s5, .ref s6] h Q
theorem w_X9_fold_52 {γ : rG} {l : Launch} {Q : rHeap → Option Value → Prop} {sh : Nat × (Nat → Nat) × (Nat → Nat)} {I : Nat → Nat → Int32} {J : Nat → Nat → Int64} {R : Nat → Nat → Option Nat} {x0 : Nat} {x1 : Int32} {x2 : Int32} {s0 : Int32} {s1 : Int32} {s2 : Int32} {s3 : Int32} {s4 : Int32} {s5 : Nat} {s6 : Nat}
    (h_x0 : At9 sh R x0)
    (h_s5 : At9 sh R s5)
    (h_s6 : At9 sh R s6)
    (t : ∃ (I1 : Nat → Nat → Int32) (v3 : Int32), rMet γ l m_X9_folds [.ref s5, .int s4, .int s3, .int s2, .int s1, .int s0] (sh, I, J, R) (sh, I1, J, R) (some (.int v3)) ∧ (∃ (I4 : Nat → Nat → Int32), rMet γ l m_X9_leaves [.ref s6, .int v3] (sh, I1, J, R) (sh, I4, J, R) none ∧ (∃ (v7 : Int32), rMet γ l m_X9_turnedBy [.ref x0, .int x1, .int x2] (sh, I4, J, R) (sh, I4, J, R) (some (.int v7)) ∧ (∃ (I8 : Nat → Nat → Int32) (v10 : Int32), rMet γ l m_X9_acted [.ref x0, .int (0 : Int32), .int v7, .int x1, .int (0 : Int32), .int (0 : Int32)] (sh, I4, J, R) (sh, I8, J, R) (some (.int v10)) ∧ (Q (sh, I8, J, R) (some (.int v10))))))) :
    rW γ l m_X9_fold 0 0 52 [some (.ref x0), some (.int x1), some (.int x2), none] [.int s0, .int s1, .int s2, .int s3, .int s4, .ref s5, .ref s6] (sh, I, J, R) Q := by
  obtain ⟨I1, v3, m2, t⟩ := t
  obtain ⟨I4, m5, t⟩ := t
  obtain ⟨v7, m6, t⟩ := t
  obtain ⟨I8, v10, m9, t⟩ := t
  exact ⟨_, _, b_X9_fold_52  h_x0 h_s5 h_s6 m2 m5 m6 m9 ⟨rfl, rfl⟩, t⟩
abbrev s_X9_tuck_0 (γ : rG) (l : Launch) (x0 : Nat) (x1 : Int32) (x2 : Int32) (x3 : Int32) (h : rHeap) (Q : rHeap → Option Value → Prop) : Prop := rW γ l m_X9_tuck 0 0 0 [some (.ref x0), some (.int x1), some (.int x2), some (.int x3), none] [] h Q
theorem w_X9_tuck_0 {γ : rG} {l : Launch} {Q : rHeap → Option Value → Prop} {sh : Nat × (Nat → Nat) × (Nat → Nat)} {I : Nat → Nat → Int32} {J : Nat → Nat → Int64} {R : Nat → Nat → Option Nat} {x0 : Nat} {x1 : Int32} {x2 : Int32} {x3 : Int32}
    (h_x0 : At9 sh R x0)
    (t : ((I x0 48) = (16 : Int32) → (Q (sh, I, J, R) (some (.int (-1 : Int32))))) ∧ (¬ (I x0 48) = (16 : Int32) → ((x1 < (1 : Int32) → (Q (sh, I, J, R) (some (.int (-1 : Int32))))) ∧ (¬ x1 < (1 : Int32) → (vp_in (I x0 48) 22 ∧ (((I (x0 + 25) (I x0 48).toNatClampNeg) ≤ x1 → (Q (sh, I, J, R) (some (.int (-1 : Int32))))) ∧ (¬ (I (x0 + 25) (I x0 48).toNatClampNeg) ≤ x1 → ((x3 < 0 → (Q (sh, I, J, R) (some (.int (-1 : Int32))))) ∧ (¬ x3 < 0 → ((x3 ≤ (8 : Int32) → (∃ (I11 : Nat → Nat → Int32) (v13 : Int32), rMet γ l m_X9_folds [.ref x0, .int (I x0 48), .int ((I x0 48) + (1 : Int32)), .int x1, .int x2, .int ((2 : Int32) + x3)] (sh, I, J, R) (sh, I11, J, R) (some (.int v13)) ∧ (∃ (v15 : Int32), rMet γ l m_X9_mayBe [.ref x0, .int ((I11 x0 48) + (1 : Int32))] (sh, I11, J, R) (sh, I11, J, R) (some (.int v15)) ∧ ((v15 = 0 → (Q (sh, I11, J, R) (some (.int (-2 : Int32))))) ∧ (¬ v15 = 0 → (∃ (I17 : Nat → Nat → Int32), rMet γ l m_X9_leaves [.ref x0, .int v13] (sh, I11, J, R) (sh, I17, J, R) none ∧ (∃ (v20 : Int32), rMet γ l m_X9_turnedBy [.ref x0, .int x1, .int x2] (sh, I17, J, R) (sh, I17, J, R) (some (.int v20)) ∧ (∃ (I21 : Nat → Nat → Int32) (v23 : Int32), rMet γ l m_X9_acted [.ref x0, .int (1 : Int32), .int v20, .int x1, .int (0 : Int32), .int (0 : Int32)] (sh, I17, J, R) (sh, I21, J, R) (some (.int v23)) ∧ (Q (sh, I21, J, R) (some (.int v23))))))))))) ∧ (¬ x3 ≤ (8 : Int32) → (Q (sh, I, J, R) (some (.int (-1 : Int32))))))))))))))) :
    rW γ l m_X9_tuck 0 0 0 [some (.ref x0), some (.int x1), some (.int x2), some (.int x3), none] [] (sh, I, J, R) Q := by
  by_cases p0 : (I x0 48) = (16 : Int32)
  · have t := t.1 p0
    exact ⟨_, _, b_X9_tuck_0 (I11 := I) (v13 := 0) (v15 := 0) (I17 := I) (v20 := 0) (I21 := I) (v23 := 0) h_x0 (fun _ => ⟨rfl, rfl⟩) (fun y0 _ => absurd p0 y0) (fun y0 _ => absurd p0 y0) (fun y0 _ _ => absurd p0 y0) (fun y0 _ _ _ => absurd p0 y0) (fun y0 _ _ _ _ => absurd p0 y0) (fun y0 _ _ _ _ => absurd p0 y0) (fun y0 _ _ _ _ _ => absurd p0 y0) (fun y0 _ _ _ _ _ => absurd p0 y0) (fun y0 _ _ _ _ _ => absurd p0 y0) (fun y0 _ _ _ _ _ => absurd p0 y0) (fun y0 _ _ _ _ _ => absurd p0 y0) (fun y0 _ _ _ _ => absurd p0 y0), t⟩
  · have t := t.2 p0
    by_cases p1 : x1 < (1 : Int32)
    · have t := t.1 p1
      exact ⟨_, _, b_X9_tuck_0 (I11 := I) (v13 := 0) (v15 := 0) (I17 := I) (v20 := 0) (I21 := I) (v23 := 0) h_x0 (fun y0 => absurd y0 p0) (fun _ _ => ⟨rfl, rfl⟩) (fun _ y1 => absurd p1 y1) (fun _ y1 _ => absurd p1 y1) (fun _ y1 _ _ => absurd p1 y1) (fun _ y1 _ _ _ => absurd p1 y1) (fun _ y1 _ _ _ => absurd p1 y1) (fun _ y1 _ _ _ _ => absurd p1 y1) (fun _ y1 _ _ _ _ => absurd p1 y1) (fun _ y1 _ _ _ _ => absurd p1 y1) (fun _ y1 _ _ _ _ => absurd p1 y1) (fun _ y1 _ _ _ _ => absurd p1 y1) (fun _ y1 _ _ _ => absurd p1 y1), t⟩
    · have t := t.2 p1
      obtain ⟨b5, t⟩ := t
      by_cases p2 : (I (x0 + 25) (I x0 48).toNatClampNeg) ≤ x1
      · have t := t.1 p2
        exact ⟨_, _, b_X9_tuck_0 (I11 := I) (v13 := 0) (v15 := 0) (I17 := I) (v20 := 0) (I21 := I) (v23 := 0) h_x0 (fun y0 => absurd y0 p0) (fun _ y1 => absurd y1 p1) (fun _ _ => b5) (fun _ _ _ => ⟨rfl, rfl⟩) (fun _ _ y2 _ => absurd p2 y2) (fun _ _ y2 _ _ => absurd p2 y2) (fun _ _ y2 _ _ => absurd p2 y2) (fun _ _ y2 _ _ _ => absurd p2 y2) (fun _ _ y2 _ _ _ => absurd p2 y2) (fun _ _ y2 _ _ _ => absurd p2 y2) (fun _ _ y2 _ _ _ => absurd p2 y2) (fun _ _ y2 _ _ _ => absurd p2 y2) (fun _ _ y2 _ _ => absurd p2 y2), t⟩
      · have t := t.2 p2
        by_cases p3 : x3 < 0
        · have t := t.1 p3
          exact ⟨_, _, b_X9_tuck_0 (I11 := I) (v13 := 0) (v15 := 0) (I17 := I) (v20 := 0) (I21 := I) (v23 := 0) h_x0 (fun y0 => absurd y0 p0) (fun _ y1 => absurd y1 p1) (fun _ _ => b5) (fun _ _ y2 => absurd y2 p2) (fun _ _ _ _ => ⟨rfl, rfl⟩) (fun _ _ _ y3 _ => absurd p3 y3) (fun _ _ _ y3 _ => absurd p3 y3) (fun _ _ _ y3 _ _ => absurd p3 y3) (fun _ _ _ y3 _ _ => absurd p3 y3) (fun _ _ _ y3 _ _ => absurd p3 y3) (fun _ _ _ y3 _ _ => absurd p3 y3) (fun _ _ _ y3 _ _ => absurd p3 y3) (fun _ _ _ y3 _ => absurd p3 y3), t⟩
        · have t := t.2 p3
          by_cases p4 : x3 ≤ (8 : Int32)
          · have t := t.1 p4
            obtain ⟨I11, v13, m12, t⟩ := t
            obtain ⟨v15, m14, t⟩ := t
            by_cases p5 : v15 = 0
            · have t := t.1 p5
              exact ⟨_, _, b_X9_tuck_0 (I17 := I) (v20 := 0) (I21 := I) (v23 := 0) h_x0 (fun y0 => absurd y0 p0) (fun _ y1 => absurd y1 p1) (fun _ _ => b5) (fun _ _ y2 => absurd y2 p2) (fun _ _ _ y3 => absurd y3 p3) (fun _ _ _ _ _ => m12) (fun _ _ _ _ _ => m14) (fun _ _ _ _ _ y5 => absurd p5 y5) (fun _ _ _ _ _ y5 => absurd p5 y5) (fun _ _ _ _ _ y5 => absurd p5 y5) (fun _ _ _ _ _ y5 => absurd p5 y5) (fun _ _ _ _ _ _ => ⟨rfl, rfl⟩) (fun _ _ _ _ y4 => absurd p4 y4), t⟩
            · have t := t.2 p5
              obtain ⟨I17, m18, t⟩ := t
              obtain ⟨v20, m19, t⟩ := t
              obtain ⟨I21, v23, m22, t⟩ := t
              exact ⟨_, _, b_X9_tuck_0  h_x0 (fun y0 => absurd y0 p0) (fun _ y1 => absurd y1 p1) (fun _ _ => b5) (fun _ _ y2 => absurd y2 p2) (fun _ _ _ y3 => absurd y3 p3) (fun _ _ _ _ _ => m12) (fun _ _ _ _ _ => m14) (fun _ _ _ _ _ _ => m18) (fun _ _ _ _ _ _ => m19) (fun _ _ _ _ _ _ => m22) (fun _ _ _ _ _ _ => ⟨rfl, rfl⟩) (fun _ _ _ _ _ y5 => absurd y5 p5) (fun _ _ _ _ y4 => absurd p4 y4), t⟩
          · have t := t.2 p4
            exact ⟨_, _, b_X9_tuck_0 (I11 := I) (v13 := 0) (v15 := 0) (I17 := I) (v20 := 0) (I21 := I) (v23 := 0) h_x0 (fun y0 => absurd y0 p0) (fun _ y1 => absurd y1 p1) (fun _ _ => b5) (fun _ _ y2 => absurd y2 p2) (fun _ _ _ y3 => absurd y3 p3) (fun _ _ _ _ y4 => absurd y4 p4) (fun _ _ _ _ y4 => absurd y4 p4) (fun _ _ _ _ y4 _ => absurd y4 p4) (fun _ _ _ _ y4 _ => absurd y4 p4) (fun _ _ _ _ y4 _ => absurd y4 p4) (fun _ _ _ _ y4 _ => absurd y4 p4) (fun _ _ _ _ y4 _ => absurd y4 p4) (fun _ _ _ _ _ => ⟨rfl, rfl⟩), t⟩
abbrev s_X9_isColumn_0 (γ : rG) (l : Launch) (x0 : Nat) (x1 : Int32) (h : rHeap) (Q : rHeap → Option Value → Prop) : Prop := rW γ l m_X9_isColumn 0 0 0 [some (.ref x0), some (.int x1)] [] h Q
theorem w_X9_isColumn_0 {γ : rG} {l : Launch} {Q : rHeap → Option Value → Prop} {sh : Nat × (Nat → Nat) × (Nat → Nat)} {I : Nat → Nat → Int32} {J : Nat → Nat → Int64} {R : Nat → Nat → Option Nat} {x0 : Nat} {x1 : Int32}
    (h_x0 : At9 sh R x0)
    (t : (x1 < 0 → (Q (sh, I, J, R) (some (.int (0 : Int32))))) ∧ (¬ x1 < 0 → (vp_in (I x0 48) 22 ∧ (((I (x0 + 25) (I x0 48).toNatClampNeg) ≤ x1 → (Q (sh, I, J, R) (some (.int (0 : Int32))))) ∧ (¬ (I (x0 + 25) (I x0 48).toNatClampNeg) ≤ x1 → (Q (sh, I, J, R) (some (.int (1 : Int32))))))))) :
    rW γ l m_X9_isColumn 0 0 0 [some (.ref x0), some (.int x1)] [] (sh, I, J, R) Q := by
  by_cases p0 : x1 < 0
  · have t := t.1 p0
    exact ⟨_, _, b_X9_isColumn_0  h_x0 (fun _ => ⟨rfl, rfl⟩) (fun y0 => absurd p0 y0) (fun y0 _ => absurd p0 y0) (fun y0 _ => absurd p0 y0), t⟩
  · have t := t.2 p0
    obtain ⟨b3, t⟩ := t
    by_cases p1 : (I (x0 + 25) (I x0 48).toNatClampNeg) ≤ x1
    · have t := t.1 p1
      exact ⟨_, _, b_X9_isColumn_0  h_x0 (fun y0 => absurd y0 p0) (fun _ => b3) (fun _ _ => ⟨rfl, rfl⟩) (fun _ y1 => absurd p1 y1), t⟩
    · have t := t.2 p1
      exact ⟨_, _, b_X9_isColumn_0  h_x0 (fun y0 => absurd y0 p0) (fun _ => b3) (fun _ y1 => absurd y1 p1) (fun _ _ => ⟨rfl, rfl⟩), t⟩
abbrev s_X9_highest_0 (γ : rG) (l : Launch) (x0 : Nat) (x1 : Int32) (x2 : Int32) (x3 : Int32) (h : rHeap) (Q : rHeap → Option Value → Prop) : Prop := rW γ l m_X9_highest 0 0 0 [some (.ref x0), some (.int x1), some (.int x2), some (.int x3), none, none, none] [] h Q
theorem w_X9_highest_0 {γ : rG} {l : Launch} {Q : rHeap → Option Value → Prop} {sh : Nat × (Nat → Nat) × (Nat → Nat)} {I : Nat → Nat → Int32} {J : Nat → Nat → Int64} {R : Nat → Nat → Option Nat} {x0 : Nat} {x1 : Int32} {x2 : Int32} {x3 : Int32}
    (h_x0 : At9 sh R x0)
    (t : ∃ (v2 : Int32), rMet γ l m_X9_layersOf [.ref x0, .int x1, .int x2] (sh, I, J, R) (sh, I, J, R) (some (.int v2)) ∧ (rW γ l m_X9_highest 0 0 17 [some (.ref x0), some (.int x1), some (.int x2), none, some (.int v2), some (.int (0 : Int32)), some (.int (v2 - x3))] [] (sh, I, J, R) Q)) :
    rW γ l m_X9_highest 0 0 0 [some (.ref x0), some (.int x1), some (.int x2), some (.int x3), none, none, none] [] (sh, I, J, R) Q := by
  obtain ⟨v2, m1, t⟩ := t
  obtain ⟨hf, r, t, q⟩ := t
  exact ⟨hf, r, b_X9_highest_0  h_x0 m1 t, q⟩
abbrev s_X9_highest_17 (γ : rG) (l : Launch) (x0 : Nat) (x1 : Int32) (x2 : Int32) (x4 : Int32) (x5 : Int32) (x6 : Int32) (h : rHeap) (Q : rHeap → Option Value → Prop) : Prop := rW γ l m_X9_highest 0 0 17 [some (.ref x0), some (.int x1), some (.int x2), none, some (.int x4), some (.int x5), some (.int x6)] [] h Q
theorem w_X9_highest_17 {γ : rG} {l : Launch} {Q : rHeap → Option Value → Prop} {sh : Nat × (Nat → Nat) × (Nat → Nat)} {I : Nat → Nat → Int32} {J : Nat → Nat → Int64} {R : Nat → Nat → Option Nat} {x0 : Nat} {x1 : Int32} {x2 : Int32} {x4 : Int32} {x5 : Int32} {x6 : Int32}
    (h_x0 : At9 sh R x0)
    (t : (x4 ≤ x6 → (Q (sh, I, J, R) (some (.int x5)))) ∧ (¬ x4 ≤ x6 → (∃ (v4 : Int32), rMet γ l m_X9_partAt [.ref x0, .int x1, .int x2, .int x6] (sh, I, J, R) (sh, I, J, R) (some (.int v4)) ∧ (rW γ l m_X9_highest 0 0 17 [some (.ref x0), some (.int x1), some (.int x2), none, some (.int x4), some (.int (x5 ||| ((1 : Int32) <<< (v4 &&& 31)))), some (.int (x6 + (1 : Int32)))] [] (sh, I, J, R) Q)))) :
    rW γ l m_X9_highest 0 0 17 [some (.ref x0), some (.int x1), some (.int x2), none, some (.int x4), some (.int x5), some (.int x6)] [] (sh, I, J, R) Q := by
  by_cases p0 : x4 ≤ x6
  · have t := t.1 p0
    exact ⟨_, _, b_X9_highest_17 (v4 := 0) h_x0 (fun _ => ⟨rfl, rfl⟩) (fun y0 => absurd p0 y0) (fun y0 => absurd p0 y0), t⟩
  · have t := t.2 p0
    obtain ⟨v4, m3, t⟩ := t
    obtain ⟨hf, r, t, q⟩ := t
    exact ⟨hf, r, b_X9_highest_17  h_x0 (fun y0 => absurd y0 p0) (fun _ => m3) (fun _ => t), q⟩
abbrev s_X9_slit_0 (γ : rG) (l : Launch) (x0 : Nat) (x1 : Int32) (x2 : Int32) (h : rHeap) (Q : rHeap → Option Value → Prop) : Prop := rW γ l m_X9_slit 0 0 0 [some (.ref x0), some (.int x1), some (.int x2), none, none] [] h Q
theorem w_X9_slit_0 {γ : rG} {l : Launch} {Q : rHeap → Option Value → Prop} {sh : Nat × (Nat → Nat) × (Nat → Nat)} {I : Nat → Nat → Int32} {J : Nat → Nat → Int64} {R : Nat → Nat → Option Nat} {x0 : Nat} {x1 : Int32} {x2 : Int32}
    (h_x0 : At9 sh R x0)
    (t : ((I x0 48) = (16 : Int32) → (Q (sh, I, J, R) (some (.int (-1 : Int32))))) ∧ (¬ (I x0 48) = (16 : Int32) → (∃ (v4 : Int32), rMet γ l m_X9_isColumn [.ref x0, .int x1] (sh, I, J, R) (sh, I, J, R) (some (.int v4)) ∧ ((v4 = 0 → (Q (sh, I, J, R) (some (.int (-1 : Int32))))) ∧ (¬ v4 = 0 → ((x2 < (1 : Int32) → (Q (sh, I, J, R) (some (.int (-1 : Int32))))) ∧ (¬ x2 < (1 : Int32) → (∃ (v10 : Int32), rMet γ l m_X9_layersOf [.ref x0, .int (I x0 48), .int x1] (sh, I, J, R) (sh, I, J, R) (some (.int v10)) ∧ ((x2 ≤ v10 → (∃ (v13 : Int32), rMet γ l m_X9_highest [.ref x0, .int (I x0 48), .int x1, .int x2] (sh, I, J, R) (sh, I, J, R) (some (.int v13)) ∧ (rW γ l m_X9_slit 0 0 51 [some (.ref x0), some (.int x1), some (.int x2), some (.int v13), some (.int (0 : Int32))] [] (sh, I, J, R) Q))) ∧ (¬ x2 ≤ v10 → (Q (sh, I, J, R) (some (.int (-1 : Int32)))))))))))))) :
    rW γ l m_X9_slit 0 0 0 [some (.ref x0), some (.int x1), some (.int x2), none, none] [] (sh, I, J, R) Q := by
  by_cases p0 : (I x0 48) = (16 : Int32)
  · have t := t.1 p0
    exact ⟨_, _, b_X9_slit_0 (v4 := 0) (v10 := 0) (v13 := 0) h_x0 (fun _ => ⟨rfl, rfl⟩) (fun y0 => absurd p0 y0) (fun y0 _ => absurd p0 y0) (fun y0 _ _ => absurd p0 y0) (fun y0 _ _ => absurd p0 y0) (fun y0 _ _ _ => absurd p0 y0) (fun y0 _ _ _ => absurd p0 y0) (fun y0 _ _ _ => absurd p0 y0), t⟩
  · have t := t.2 p0
    obtain ⟨v4, m3, t⟩ := t
    by_cases p1 : v4 = 0
    · have t := t.1 p1
      exact ⟨_, _, b_X9_slit_0 (v10 := 0) (v13 := 0) h_x0 (fun y0 => absurd y0 p0) (fun _ => m3) (fun _ _ => ⟨rfl, rfl⟩) (fun _ y1 _ => absurd p1 y1) (fun _ y1 _ => absurd p1 y1) (fun _ y1 _ _ => absurd p1 y1) (fun _ y1 _ _ => absurd p1 y1) (fun _ y1 _ _ => absurd p1 y1), t⟩
    · have t := t.2 p1
      by_cases p2 : x2 < (1 : Int32)
      · have t := t.1 p2
        exact ⟨_, _, b_X9_slit_0 (v10 := 0) (v13 := 0) h_x0 (fun y0 => absurd y0 p0) (fun _ => m3) (fun _ y1 => absurd y1 p1) (fun _ _ _ => ⟨rfl, rfl⟩) (fun _ _ y2 => absurd p2 y2) (fun _ _ y2 _ => absurd p2 y2) (fun _ _ y2 _ => absurd p2 y2) (fun _ _ y2 _ => absurd p2 y2), t⟩
      · have t := t.2 p2
        obtain ⟨v10, m9, t⟩ := t
        by_cases p3 : x2 ≤ v10
        · have t := t.1 p3
          obtain ⟨v13, m12, t⟩ := t
          obtain ⟨hf, r, t, q⟩ := t
          exact ⟨hf, r, b_X9_slit_0  h_x0 (fun y0 => absurd y0 p0) (fun _ => m3) (fun _ y1 => absurd y1 p1) (fun _ _ y2 => absurd y2 p2) (fun _ _ _ => m9) (fun _ _ _ _ => m12) (fun _ _ _ _ => t) (fun _ _ _ y3 => absurd p3 y3), q⟩
        · have t := t.2 p3
          exact ⟨_, _, b_X9_slit_0 (v13 := 0) h_x0 (fun y0 => absurd y0 p0) (fun _ => m3) (fun _ y1 => absurd y1 p1) (fun _ _ y2 => absurd y2 p2) (fun _ _ _ => m9) (fun _ _ _ y3 => absurd y3 p3) (fun _ _ _ y3 => absurd y3 p3) (fun _ _ _ _ => ⟨rfl, rfl⟩), t⟩
abbrev s_X9_slit_51 (γ : rG) (l : Launch) (x0 : Nat) (x1 : Int32) (x2 : Int32) (x3 : Int32) (x4 : Int32) (h : rHeap) (Q : rHeap → Option Value → Prop) : Prop := rW γ l m_X9_slit 0 0 51 [some (.ref x0), some (.int x1), some (.int x2), some (.int x3), some (.int x4)] [] h Q
theorem w_X9_slit_51 {γ : rG} {l : Launch} {Q : rHeap → Option Value → Prop} {sh : Nat × (Nat → Nat) × (Nat → Nat)} {I : Nat → Nat → Int32} {J : Nat → Nat → Int64} {R : Nat → Nat → Option Nat} {x0 : Nat} {x1 : Int32} {x2 : Int32} {x3 : Int32} {x4 : Int32}
    (h_x0 : At9 sh R x0)
    (t : ((I x0 39) ≤ x4 → (∃ (I2 : Nat → Nat → Int32), rMet γ l m_X9_copies [.ref x0, .int (I x0 48), .int ((I x0 48) + (1 : Int32))] (sh, I, J, R) (sh, I2, J, R) none ∧ (∃ (v5 : Int32), rMet γ l m_X9_layersOf [.ref x0, .int (I2 x0 48), .int x1] (sh, I2, J, R) (sh, I2, J, R) (some (.int v5)) ∧ (∃ (I6 : Nat → Nat → Int32) (v8 : Int32), rMet γ l m_X9_acted [.ref x0, .int (2 : Int32), .int x2, .int x1, .int (v5 - x2), .int (0 : Int32)] (sh, I2, J, R) (sh, I6, J, R) (some (.int v8)) ∧ (Q (sh, I6, J, R) (some (.int v8))))))) ∧ (¬ (I x0 39) ≤ x4 → (vp_in x4 8 ∧ (vp_in x4 8 ∧ (rW γ l m_X9_slit 0 0 51 [some (.ref x0), some (.int x1), some (.int x2), some (.int x3), some (.int (x4 + (1 : Int32)))] [] (sh, (up I (x0 + 30) x4.toNatClampNeg (((I (x0 + 30) x4.toNatClampNeg) + ((x3 >>> (x4 &&& 31)) &&& (1 : Int32))))), J, R) Q))))) :
    rW γ l m_X9_slit 0 0 51 [some (.ref x0), some (.int x1), some (.int x2), some (.int x3), some (.int x4)] [] (sh, I, J, R) Q := by
  by_cases p0 : (I x0 39) ≤ x4
  · have t := t.1 p0
    obtain ⟨I2, m3, t⟩ := t
    obtain ⟨v5, m4, t⟩ := t
    obtain ⟨I6, v8, m7, t⟩ := t
    exact ⟨_, _, b_X9_slit_51  h_x0 (fun _ => m3) (fun _ => m4) (fun _ => m7) (fun _ => ⟨rfl, rfl⟩) (fun y0 => absurd p0 y0) (fun y0 => absurd p0 y0) (fun y0 => absurd p0 y0), t⟩
  · have t := t.2 p0
    obtain ⟨b10, t⟩ := t
    obtain ⟨b11, t⟩ := t
    obtain ⟨hf, r, t, q⟩ := t
    exact ⟨hf, r, b_X9_slit_51 (I2 := I) (v5 := 0) (I6 := I) (v8 := 0) h_x0 (fun y0 => absurd y0 p0) (fun y0 => absurd y0 p0) (fun y0 => absurd y0 p0) (fun y0 => absurd y0 p0) (fun _ => b10) (fun _ => b11) (fun _ => t), q⟩
abbrev s_X9_lock_0 (γ : rG) (l : Launch) (x0 : Nat) (x1 : Int32) (x2 : Int32) (h : rHeap) (Q : rHeap → Option Value → Prop) : Prop := rW γ l m_X9_lock 0 0 0 [some (.ref x0), some (.int x1), some (.int x2), none, none] [] h Q
theorem w_X9_lock_0 {γ : rG} {l : Launch} {Q : rHeap → Option Value → Prop} {sh : Nat × (Nat → Nat) × (Nat → Nat)} {I : Nat → Nat → Int32} {J : Nat → Nat → Int64} {R : Nat → Nat → Option Nat} {x0 : Nat} {x1 : Int32} {x2 : Int32}
    (h_x0 : At9 sh R x0)
    (t : ((I x0 48) = (16 : Int32) → (Q (sh, I, J, R) (some (.int (-1 : Int32))))) ∧ (¬ (I x0 48) = (16 : Int32) → (∃ (v4 : Int32), rMet γ l m_X9_isColumn [.ref x0, .int x1] (sh, I, J, R) (sh, I, J, R) (some (.int v4)) ∧ ((v4 = 0 → (Q (sh, I, J, R) (some (.int (-1 : Int32))))) ∧ (¬ v4 = 0 → ((x2 < (2 : Int32) → (Q (sh, I, J, R) (some (.int (-1 : Int32))))) ∧ (¬ x2 < (2 : Int32) → (∃ (v10 : Int32), rMet γ l m_X9_layersOf [.ref x0, .int (I x0 48), .int x1] (sh, I, J, R) (sh, I, J, R) (some (.int v10)) ∧ ((x2 ≤ v10 → (∃ (v13 : Int32), rMet γ l m_X9_highest [.ref x0, .int (I x0 48), .int x1, .int x2] (sh, I, J, R) (sh, I, J, R) (some (.int v13)) ∧ (rW γ l m_X9_lock 0 0 51 [some (.ref x0), some (.int x1), some (.int x2), some (.int v13), some (.int (0 : Int32))] [] (sh, I, J, R) Q))) ∧ (¬ x2 ≤ v10 → (Q (sh, I, J, R) (some (.int (-1 : Int32)))))))))))))) :
    rW γ l m_X9_lock 0 0 0 [some (.ref x0), some (.int x1), some (.int x2), none, none] [] (sh, I, J, R) Q := by
  by_cases p0 : (I x0 48) = (16 : Int32)
  · have t := t.1 p0
    exact ⟨_, _, b_X9_lock_0 (v4 := 0) (v10 := 0) (v13 := 0) h_x0 (fun _ => ⟨rfl, rfl⟩) (fun y0 => absurd p0 y0) (fun y0 _ => absurd p0 y0) (fun y0 _ _ => absurd p0 y0) (fun y0 _ _ => absurd p0 y0) (fun y0 _ _ _ => absurd p0 y0) (fun y0 _ _ _ => absurd p0 y0) (fun y0 _ _ _ => absurd p0 y0), t⟩
  · have t := t.2 p0
    obtain ⟨v4, m3, t⟩ := t
    by_cases p1 : v4 = 0
    · have t := t.1 p1
      exact ⟨_, _, b_X9_lock_0 (v10 := 0) (v13 := 0) h_x0 (fun y0 => absurd y0 p0) (fun _ => m3) (fun _ _ => ⟨rfl, rfl⟩) (fun _ y1 _ => absurd p1 y1) (fun _ y1 _ => absurd p1 y1) (fun _ y1 _ _ => absurd p1 y1) (fun _ y1 _ _ => absurd p1 y1) (fun _ y1 _ _ => absurd p1 y1), t⟩
    · have t := t.2 p1
      by_cases p2 : x2 < (2 : Int32)
      · have t := t.1 p2
        exact ⟨_, _, b_X9_lock_0 (v10 := 0) (v13 := 0) h_x0 (fun y0 => absurd y0 p0) (fun _ => m3) (fun _ y1 => absurd y1 p1) (fun _ _ _ => ⟨rfl, rfl⟩) (fun _ _ y2 => absurd p2 y2) (fun _ _ y2 _ => absurd p2 y2) (fun _ _ y2 _ => absurd p2 y2) (fun _ _ y2 _ => absurd p2 y2), t⟩
      · have t := t.2 p2
        obtain ⟨v10, m9, t⟩ := t
        by_cases p3 : x2 ≤ v10
        · have t := t.1 p3
          obtain ⟨v13, m12, t⟩ := t
          obtain ⟨hf, r, t, q⟩ := t
          exact ⟨hf, r, b_X9_lock_0  h_x0 (fun y0 => absurd y0 p0) (fun _ => m3) (fun _ y1 => absurd y1 p1) (fun _ _ y2 => absurd y2 p2) (fun _ _ _ => m9) (fun _ _ _ _ => m12) (fun _ _ _ _ => t) (fun _ _ _ y3 => absurd p3 y3), q⟩
        · have t := t.2 p3
          exact ⟨_, _, b_X9_lock_0 (v13 := 0) h_x0 (fun y0 => absurd y0 p0) (fun _ => m3) (fun _ y1 => absurd y1 p1) (fun _ _ y2 => absurd y2 p2) (fun _ _ _ => m9) (fun _ _ _ y3 => absurd y3 p3) (fun _ _ _ y3 => absurd y3 p3) (fun _ _ _ _ => ⟨rfl, rfl⟩), t⟩
abbrev s_X9_lock_51 (γ : rG) (l : Launch) (x0 : Nat) (x1 : Int32) (x2 : Int32) (x3 : Int32) (x4 : Int32) (h : rHeap) (Q : rHeap → Option Value → Prop) : Prop := rW γ l m_X9_lock 0 0 51 [some (.ref x0), some (.int x1), some (.int x2), some (.int x3), some (.int x4)] [] h Q
theorem w_X9_lock_51 {γ : rG} {l : Launch} {Q : rHeap → Option Value → Prop} {sh : Nat × (Nat → Nat) × (Nat → Nat)} {I : Nat → Nat → Int32} {J : Nat → Nat → Int64} {R : Nat → Nat → Option Nat} {x0 : Nat} {x1 : Int32} {x2 : Int32} {x3 : Int32} {x4 : Int32}
    (h_x0 : At9 sh R x0)
    (t : ((I x0 39) ≤ x4 → (∃ (I2 : Nat → Nat → Int32), rMet γ l m_X9_copies [.ref x0, .int (I x0 48), .int ((I x0 48) + (1 : Int32))] (sh, I, J, R) (sh, I2, J, R) none ∧ (∃ (v5 : Int32), rMet γ l m_X9_layersOf [.ref x0, .int (I2 x0 48), .int x1] (sh, I2, J, R) (sh, I2, J, R) (some (.int v5)) ∧ (∃ (I6 : Nat → Nat → Int32) (v8 : Int32), rMet γ l m_X9_acted [.ref x0, .int (3 : Int32), .int x2, .int x1, .int (v5 - x2), .int x3] (sh, I2, J, R) (sh, I6, J, R) (some (.int v8)) ∧ (Q (sh, I6, J, R) (some (.int v8))))))) ∧ (¬ (I x0 39) ≤ x4 → ((((x3 >>> (x4 &&& 31)) &&& (1 : Int32)) = (1 : Int32) → (vp_in x4 8 ∧ (((I (x0 + 30) x4.toNatClampNeg) = 0 → (Q (sh, I, J, R) (some (.int (-2 : Int32))))) ∧ (¬ (I (x0 + 30) x4.toNatClampNeg) = 0 → (rW γ l m_X9_lock 0 0 51 [some (.ref x0), some (.int x1), some (.int x2), some (.int x3), some (.int (x4 + (1 : Int32)))] [] (sh, I, J, R) Q))))) ∧ (¬ ((x3 >>> (x4 &&& 31)) &&& (1 : Int32)) = (1 : Int32) → (rW γ l m_X9_lock 0 0 51 [some (.ref x0), some (.int x1), some (.int x2), some (.int x3), some (.int (x4 + (1 : Int32)))] [] (sh, I, J, R) Q))))) :
    rW γ l m_X9_lock 0 0 51 [some (.ref x0), some (.int x1), some (.int x2), some (.int x3), some (.int x4)] [] (sh, I, J, R) Q := by
  by_cases p0 : (I x0 39) ≤ x4
  · have t := t.1 p0
    obtain ⟨I2, m3, t⟩ := t
    obtain ⟨v5, m4, t⟩ := t
    obtain ⟨I6, v8, m7, t⟩ := t
    exact ⟨_, _, b_X9_lock_51  h_x0 (fun _ => m3) (fun _ => m4) (fun _ => m7) (fun _ => ⟨rfl, rfl⟩) (fun y0 _ => absurd p0 y0) (fun y0 _ => absurd p0 y0) (fun y0 _ _ => absurd p0 y0) (fun y0 _ _ => absurd p0 y0), t⟩
  · have t := t.2 p0
    by_cases p1 : ((x3 >>> (x4 &&& 31)) &&& (1 : Int32)) = (1 : Int32)
    · have t := t.1 p1
      obtain ⟨b12, t⟩ := t
      by_cases p2 : (I (x0 + 30) x4.toNatClampNeg) = 0
      · have t := t.1 p2
        exact ⟨_, _, b_X9_lock_51 (I2 := I) (v5 := 0) (I6 := I) (v8 := 0) h_x0 (fun y0 => absurd y0 p0) (fun y0 => absurd y0 p0) (fun y0 => absurd y0 p0) (fun y0 => absurd y0 p0) (fun _ y1 => absurd p1 y1) (fun _ _ => b12) (fun _ _ y2 => absurd p2 y2) (fun _ _ _ => ⟨rfl, rfl⟩), t⟩
      · have t := t.2 p2
        obtain ⟨hf, r, t, q⟩ := t
        exact ⟨hf, r, b_X9_lock_51 (I2 := I) (v5 := 0) (I6 := I) (v8 := 0) h_x0 (fun y0 => absurd y0 p0) (fun y0 => absurd y0 p0) (fun y0 => absurd y0 p0) (fun y0 => absurd y0 p0) (fun _ y1 => absurd p1 y1) (fun _ _ => b12) (fun _ _ _ => t) (fun _ _ y2 => absurd y2 p2), q⟩
    · have t := t.2 p1
      obtain ⟨hf, r, t, q⟩ := t
      exact ⟨hf, r, b_X9_lock_51 (I2 := I) (v5 := 0) (I6 := I) (v8 := 0) h_x0 (fun y0 => absurd y0 p0) (fun y0 => absurd y0 p0) (fun y0 => absurd y0 p0) (fun y0 => absurd y0 p0) (fun _ _ => t) (fun _ y1 => absurd y1 p1) (fun _ y1 _ => absurd y1 p1) (fun _ y1 _ => absurd y1 p1), q⟩
abbrev s_X9_seal_0 (γ : rG) (l : Launch) (x0 : Nat) (x1 : Int32) (h : rHeap) (Q : rHeap → Option Value → Prop) : Prop := rW γ l m_X9_seal 0 0 0 [some (.ref x0), some (.int x1), none, none] [] h Q
theorem w_X9_seal_0 {γ : rG} {l : Launch} {Q : rHeap → Option Value → Prop} {sh : Nat × (Nat → Nat) × (Nat → Nat)} {I : Nat → Nat → Int32} {J : Nat → Nat → Int64} {R : Nat → Nat → Option Nat} {x0 : Nat} {x1 : Int32}
    (h_x0 : At9 sh R x0)
    (t : ((I x0 48) = (16 : Int32) → (Q (sh, I, J, R) (some (.int (-1 : Int32))))) ∧ (¬ (I x0 48) = (16 : Int32) → (∃ (v4 : Int32), rMet γ l m_X9_isColumn [.ref x0, .int x1] (sh, I, J, R) (sh, I, J, R) (some (.int v4)) ∧ ((v4 = 0 → (Q (sh, I, J, R) (some (.int (-1 : Int32))))) ∧ (¬ v4 = 0 → (∃ (v8 : Int32), rMet γ l m_X9_layersOf [.ref x0, .int (I x0 48), .int x1] (sh, I, J, R) (sh, I, J, R) (some (.int v8)) ∧ (((2 : Int32) ≤ v8 → (∃ (v11 : Int32), rMet γ l m_X9_highest [.ref x0, .int (I x0 48), .int x1, .int (2 : Int32)] (sh, I, J, R) (sh, I, J, R) (some (.int v11)) ∧ (rW γ l m_X9_seal 0 0 45 [some (.ref x0), some (.int x1), some (.int v11), some (.int (0 : Int32))] [] (sh, I, J, R) Q))) ∧ (¬ (2 : Int32) ≤ v8 → (Q (sh, I, J, R) (some (.int (-1 : Int32)))))))))))) :
    rW γ l m_X9_seal 0 0 0 [some (.ref x0), some (.int x1), none, none] [] (sh, I, J, R) Q := by
  by_cases p0 : (I x0 48) = (16 : Int32)
  · have t := t.1 p0
    exact ⟨_, _, b_X9_seal_0 (v4 := 0) (v8 := 0) (v11 := 0) h_x0 (fun _ => ⟨rfl, rfl⟩) (fun y0 => absurd p0 y0) (fun y0 _ => absurd p0 y0) (fun y0 _ => absurd p0 y0) (fun y0 _ _ => absurd p0 y0) (fun y0 _ _ => absurd p0 y0) (fun y0 _ _ => absurd p0 y0), t⟩
  · have t := t.2 p0
    obtain ⟨v4, m3, t⟩ := t
    by_cases p1 : v4 = 0
    · have t := t.1 p1
      exact ⟨_, _, b_X9_seal_0 (v8 := 0) (v11 := 0) h_x0 (fun y0 => absurd y0 p0) (fun _ => m3) (fun _ _ => ⟨rfl, rfl⟩) (fun _ y1 => absurd p1 y1) (fun _ y1 _ => absurd p1 y1) (fun _ y1 _ => absurd p1 y1) (fun _ y1 _ => absurd p1 y1), t⟩
    · have t := t.2 p1
      obtain ⟨v8, m7, t⟩ := t
      by_cases p2 : (2 : Int32) ≤ v8
      · have t := t.1 p2
        obtain ⟨v11, m10, t⟩ := t
        obtain ⟨hf, r, t, q⟩ := t
        exact ⟨hf, r, b_X9_seal_0  h_x0 (fun y0 => absurd y0 p0) (fun _ => m3) (fun _ y1 => absurd y1 p1) (fun _ _ => m7) (fun _ _ _ => m10) (fun _ _ _ => t) (fun _ _ y2 => absurd p2 y2), q⟩
      · have t := t.2 p2
        exact ⟨_, _, b_X9_seal_0 (v11 := 0) h_x0 (fun y0 => absurd y0 p0) (fun _ => m3) (fun _ y1 => absurd y1 p1) (fun _ _ => m7) (fun _ _ y2 => absurd y2 p2) (fun _ _ y2 => absurd y2 p2) (fun _ _ _ => ⟨rfl, rfl⟩), t⟩
abbrev s_X9_seal_45 (γ : rG) (l : Launch) (x0 : Nat) (x1 : Int32) (x2 : Int32) (x3 : Int32) (h : rHeap) (Q : rHeap → Option Value → Prop) : Prop := rW γ l m_X9_seal 0 0 45 [some (.ref x0), some (.int x1), some (.int x2), some (.int x3)] [] h Q
theorem w_X9_seal_45 {γ : rG} {l : Launch} {Q : rHeap → Option Value → Prop} {sh : Nat × (Nat → Nat) × (Nat → Nat)} {I : Nat → Nat → Int32} {J : Nat → Nat → Int64} {R : Nat → Nat → Option Nat} {x0 : Nat} {x1 : Int32} {x2 : Int32} {x3 : Int32}
    (h_x0 : At9 sh R x0)
    (t : ((I x0 39) ≤ x3 → (∃ (I2 : Nat → Nat → Int32), rMet γ l m_X9_copies [.ref x0, .int (I x0 48), .int ((I x0 48) + (1 : Int32))] (sh, I, J, R) (sh, I2, J, R) none ∧ (∃ (v5 : Int32), rMet γ l m_X9_layersOf [.ref x0, .int (I2 x0 48), .int x1] (sh, I2, J, R) (sh, I2, J, R) (some (.int v5)) ∧ (∃ (I6 : Nat → Nat → Int32) (v8 : Int32), rMet γ l m_X9_acted [.ref x0, .int (4 : Int32), .int (2 : Int32), .int x1, .int (v5 - (2 : Int32)), .int x2] (sh, I2, J, R) (sh, I6, J, R) (some (.int v8)) ∧ (Q (sh, I6, J, R) (some (.int v8))))))) ∧ (¬ (I x0 39) ≤ x3 → (vp_in x3 8 ∧ (vp_in x3 8 ∧ (rW γ l m_X9_seal 0 0 45 [some (.ref x0), some (.int x1), some (.int x2), some (.int (x3 + (1 : Int32)))] [] (sh, (up I (x0 + 31) x3.toNatClampNeg (((I (x0 + 31) x3.toNatClampNeg) + ((x2 >>> (x3 &&& 31)) &&& (1 : Int32))))), J, R) Q))))) :
    rW γ l m_X9_seal 0 0 45 [some (.ref x0), some (.int x1), some (.int x2), some (.int x3)] [] (sh, I, J, R) Q := by
  by_cases p0 : (I x0 39) ≤ x3
  · have t := t.1 p0
    obtain ⟨I2, m3, t⟩ := t
    obtain ⟨v5, m4, t⟩ := t
    obtain ⟨I6, v8, m7, t⟩ := t
    exact ⟨_, _, b_X9_seal_45  h_x0 (fun _ => m3) (fun _ => m4) (fun _ => m7) (fun _ => ⟨rfl, rfl⟩) (fun y0 => absurd p0 y0) (fun y0 => absurd p0 y0) (fun y0 => absurd p0 y0), t⟩
  · have t := t.2 p0
    obtain ⟨b10, t⟩ := t
    obtain ⟨b11, t⟩ := t
    obtain ⟨hf, r, t, q⟩ := t
    exact ⟨hf, r, b_X9_seal_45 (I2 := I) (v5 := 0) (I6 := I) (v8 := 0) h_x0 (fun y0 => absurd y0 p0) (fun y0 => absurd y0 p0) (fun y0 => absurd y0 p0) (fun y0 => absurd y0 p0) (fun _ => b10) (fun _ => b11) (fun _ => t), q⟩
abbrev s_X9_outer_0 (γ : rG) (l : Launch) (x0 : Nat) (x1 : Int32) (h : rHeap) (Q : rHeap → Option Value → Prop) : Prop := rW γ l m_X9_outer 0 0 0 [some (.ref x0), some (.int x1), none, none, none, none] [] h Q
theorem w_X9_outer_0 {γ : rG} {l : Launch} {Q : rHeap → Option Value → Prop} {sh : Nat × (Nat → Nat) × (Nat → Nat)} {I : Nat → Nat → Int32} {J : Nat → Nat → Int64} {R : Nat → Nat → Option Nat} {x0 : Nat} {x1 : Int32}
    (h_x0 : At9 sh R x0)
    (t : rW γ l m_X9_outer 0 0 4 [some (.ref x0), some (.int x1), some (.int (0 : Int32)), some (.int (0 : Int32)), none, none] [] (sh, I, J, R) Q) :
    rW γ l m_X9_outer 0 0 0 [some (.ref x0), some (.int x1), none, none, none, none] [] (sh, I, J, R) Q := by
  obtain ⟨hf, r, t, q⟩ := t
  exact ⟨hf, r, b_X9_outer_0  h_x0 t, q⟩
abbrev s_X9_outer_4 (γ : rG) (l : Launch) (x0 : Nat) (x1 : Int32) (x2 : Int32) (x3 : Int32) (h : rHeap) (Q : rHeap → Option Value → Prop) : Prop := rW γ l m_X9_outer 0 0 4 [some (.ref x0), some (.int x1), some (.int x2), some (.int x3), none, none] [] h Q
theorem w_X9_outer_4 {γ : rG} {l : Launch} {Q : rHeap → Option Value → Prop} {sh : Nat × (Nat → Nat) × (Nat → Nat)} {I : Nat → Nat → Int32} {J : Nat → Nat → Int64} {R : Nat → Nat → Option Nat} {x0 : Nat} {x1 : Int32} {x2 : Int32} {x3 : Int32}
    (h_x0 : At9 sh R x0)
    (t : vp_in x1 22 ∧ (((I (x0 + 25) x1.toNatClampNeg) ≤ x3 → (Q (sh, I, J, R) (some (.int x2)))) ∧ (¬ (I (x0 + 25) x1.toNatClampNeg) ≤ x3 → (∃ (v5 : Int32), rMet γ l m_X9_layersOf [.ref x0, .int x1, .int x3] (sh, I, J, R) (sh, I, J, R) (some (.int v5)) ∧ (∃ (v7 : Int32), rMet γ l m_X9_partAt [.ref x0, .int x1, .int x3, .int (v5 - (1 : Int32))] (sh, I, J, R) (sh, I, J, R) (some (.int v7)) ∧ (∃ (v9 : Int32), rMet γ l m_X9_partAt [.ref x0, .int x1, .int x3, .int (0 : Int32)] (sh, I, J, R) (sh, I, J, R) (some (.int v9)) ∧ (vp_in ((((8 : Int32) * x1) + v7)) 176 ∧ (((I (x0 + 28) ((((8 : Int32) * x1) + v7)).toNatClampNeg) = 0 → (rW γ l m_X9_outer 0 0 65 [some (.ref x0), some (.int x1), none, some (.int x3), none, some (.int v9)] [.int (1 : Int32), .int ((2 : Int32) * v7), .int (1 : Int32), .int x2] (sh, I, J, R) Q)) ∧ (¬ (I (x0 + 28) ((((8 : Int32) * x1) + v7)).toNatClampNeg) = 0 → (rW γ l m_X9_outer 0 0 65 [some (.ref x0), some (.int x1), none, some (.int x3), none, some (.int v9)] [.int (0 : Int32), .int ((2 : Int32) * v7), .int (1 : Int32), .int x2] (sh, I, J, R) Q)))))))))) :
    rW γ l m_X9_outer 0 0 4 [some (.ref x0), some (.int x1), some (.int x2), some (.int x3), none, none] [] (sh, I, J, R) Q := by
  obtain ⟨b1, t⟩ := t
  by_cases p0 : (I (x0 + 25) x1.toNatClampNeg) ≤ x3
  · have t := t.1 p0
    exact ⟨_, _, b_X9_outer_4 (v5 := 0) (v7 := 0) (v9 := 0) h_x0 b1 (fun _ => ⟨rfl, rfl⟩) (fun y0 => absurd p0 y0) (fun y0 => absurd p0 y0) (fun y0 => absurd p0 y0) (fun y0 => absurd p0 y0) (fun y0 _ => absurd p0 y0) (fun y0 _ => absurd p0 y0), t⟩
  · have t := t.2 p0
    obtain ⟨v5, m4, t⟩ := t
    obtain ⟨v7, m6, t⟩ := t
    obtain ⟨v9, m8, t⟩ := t
    obtain ⟨b10, t⟩ := t
    by_cases p1 : (I (x0 + 28) ((((8 : Int32) * x1) + v7)).toNatClampNeg) = 0
    · have t := t.1 p1
      obtain ⟨hf, r, t, q⟩ := t
      exact ⟨hf, r, b_X9_outer_4  h_x0 b1 (fun y0 => absurd y0 p0) (fun _ => m4) (fun _ => m6) (fun _ => m8) (fun _ => b10) (fun _ _ => t) (fun _ y1 => absurd p1 y1), q⟩
    · have t := t.2 p1
      obtain ⟨hf, r, t, q⟩ := t
      exact ⟨hf, r, b_X9_outer_4  h_x0 b1 (fun y0 => absurd y0 p0) (fun _ => m4) (fun _ => m6) (fun _ => m8) (fun _ => b10) (fun _ y1 => absurd y1 p1) (fun _ _ => t), q⟩
abbrev s_X9_outer_65 (γ : rG) (l : Launch) (x0 : Nat) (x1 : Int32) (x3 : Int32) (x5 : Int32) (s0 : Int32) (s1 : Int32) (s2 : Int32) (s3 : Int32) (h : rHeap) (Q : rHeap → Option Value → Prop) : Prop := rW γ l m_X9_outer 0 0 65 [some (.ref x0), some (.int x1), none, some (.int x3), none, some (.int x5)] [.int s0, .int s1, .int s2, .int s3] h Q
theorem w_X9_outer_65 {γ : rG} {l : Launch} {Q : rHeap → Option Value → Prop} {sh : Nat × (Nat → Nat) × (Nat → Nat)} {I : Nat → Nat → Int32} {J : Nat → Nat → Int64} {R : Nat → Nat → Option Nat} {x0 : Nat} {x1 : Int32} {x3 : Int32} {x5 : Int32} {s0 : Int32} {s1 : Int32} {s2 : Int32} {s3 : Int32}
    (h_x0 : At9 sh R x0)
    (t : vp_in ((((8 : Int32) * x1) + x5)) 176 ∧ (((I (x0 + 28) ((((8 : Int32) * x1) + x5)).toNatClampNeg) = 0 → (rW γ l m_X9_outer 0 0 4 [some (.ref x0), some (.int x1), some (.int ((s3 ||| (s2 <<< ((s1 + s0) &&& 31))) ||| ((1 : Int32) <<< ((((2 : Int32) * x5) + (0 : Int32)) &&& 31)))), some (.int (x3 + (1 : Int32))), none, none] [] (sh, I, J, R) Q)) ∧ (¬ (I (x0 + 28) ((((8 : Int32) * x1) + x5)).toNatClampNeg) = 0 → (rW γ l m_X9_outer 0 0 4 [some (.ref x0), some (.int x1), some (.int ((s3 ||| (s2 <<< ((s1 + s0) &&& 31))) ||| ((1 : Int32) <<< ((((2 : Int32) * x5) + (1 : Int32)) &&& 31)))), some (.int (x3 + (1 : Int32))), none, none] [] (sh, I, J, R) Q)))) :
    rW γ l m_X9_outer 0 0 65 [some (.ref x0), some (.int x1), none, some (.int x3), none, some (.int x5)] [.int s0, .int s1, .int s2, .int s3] (sh, I, J, R) Q := by
  obtain ⟨b1, t⟩ := t
  by_cases p0 : (I (x0 + 28) ((((8 : Int32) * x1) + x5)).toNatClampNeg) = 0
  · have t := t.1 p0
    obtain ⟨hf, r, t, q⟩ := t
    exact ⟨hf, r, b_X9_outer_65  h_x0 b1 (fun _ => t) (fun y0 => absurd p0 y0), q⟩
  · have t := t.2 p0
    obtain ⟨hf, r, t, q⟩ := t
    exact ⟨hf, r, b_X9_outer_65  h_x0 b1 (fun y0 => absurd y0 p0) (fun _ => t), q⟩
abbrev s_X9_soil_0 (γ : rG) (l : Launch) (x0 : Nat) (h : rHeap) (Q : rHeap → Option Value → Prop) : Prop := rW γ l m_X9_soil 0 0 0 [some (.ref x0), none, none] [] h Q
theorem w_X9_soil_0 {γ : rG} {l : Launch} {Q : rHeap → Option Value → Prop} {sh : Nat × (Nat → Nat) × (Nat → Nat)} {I : Nat → Nat → Int32} {J : Nat → Nat → Int64} {R : Nat → Nat → Option Nat} {x0 : Nat}
    (h_x0 : At9 sh R x0)
    (t : ((I x0 48) = (16 : Int32) → (Q (sh, I, J, R) (some (.int (-1 : Int32))))) ∧ (¬ (I x0 48) = (16 : Int32) → (∃ (v3 : Int32), rMet γ l m_X9_outer [.ref x0, .int (I x0 48)] (sh, I, J, R) (sh, I, J, R) (some (.int v3)) ∧ (rW γ l m_X9_soil 0 0 22 [some (.ref x0), some (.int v3), some (.int (0 : Int32))] [] (sh, I, J, R) Q)))) :
    rW γ l m_X9_soil 0 0 0 [some (.ref x0), none, none] [] (sh, I, J, R) Q := by
  by_cases p0 : (I x0 48) = (16 : Int32)
  · have t := t.1 p0
    exact ⟨_, _, b_X9_soil_0 (v3 := 0) h_x0 (fun y0 => absurd p0 y0) (fun y0 => absurd p0 y0) (fun _ => ⟨rfl, rfl⟩), t⟩
  · have t := t.2 p0
    obtain ⟨v3, m2, t⟩ := t
    obtain ⟨hf, r, t, q⟩ := t
    exact ⟨hf, r, b_X9_soil_0  h_x0 (fun _ => m2) (fun _ => t) (fun y0 => absurd y0 p0), q⟩
abbrev s_X9_soil_22 (γ : rG) (l : Launch) (x0 : Nat) (x1 : Int32) (x2 : Int32) (h : rHeap) (Q : rHeap → Option Value → Prop) : Prop := rW γ l m_X9_soil 0 0 22 [some (.ref x0), some (.int x1), some (.int x2)] [] h Q
theorem w_X9_soil_22 {γ : rG} {l : Launch} {Q : rHeap → Option Value → Prop} {sh : Nat × (Nat → Nat) × (Nat → Nat)} {I : Nat → Nat → Int32} {J : Nat → Nat → Int64} {R : Nat → Nat → Option Nat} {x0 : Nat} {x1 : Int32} {x2 : Int32}
    (h_x0 : At9 sh R x0)
    (t : ((16 : Int32) ≤ x2 → (∃ (I2 : Nat → Nat → Int32), rMet γ l m_X9_copies [.ref x0, .int (I x0 48), .int ((I x0 48) + (1 : Int32))] (sh, I, J, R) (sh, I2, J, R) none ∧ (∃ (I4 : Nat → Nat → Int32) (v6 : Int32), rMet γ l m_X9_acted [.ref x0, .int (5 : Int32), .int (0 : Int32), .int (0 : Int32), .int (0 : Int32), .int (0 : Int32)] (sh, I2, J, R) (sh, I4, J, R) (some (.int v6)) ∧ (Q (sh, I4, J, R) (some (.int v6)))))) ∧ (¬ (16 : Int32) ≤ x2 → ((((x1 >>> (x2 &&& 31)) &&& (1 : Int32)) = (1 : Int32) → (vp_in x2 16 ∧ (rW γ l m_X9_soil 0 0 22 [some (.ref x0), some (.int x1), some (.int (x2 + (1 : Int32)))] [] (sh, (up I (x0 + 32) x2.toNatClampNeg (vp_nar .boolean (1 : Int32))), J, R) Q))) ∧ (¬ ((x1 >>> (x2 &&& 31)) &&& (1 : Int32)) = (1 : Int32) → (rW γ l m_X9_soil 0 0 22 [some (.ref x0), some (.int x1), some (.int (x2 + (1 : Int32)))] [] (sh, I, J, R) Q))))) :
    rW γ l m_X9_soil 0 0 22 [some (.ref x0), some (.int x1), some (.int x2)] [] (sh, I, J, R) Q := by
  by_cases p0 : (16 : Int32) ≤ x2
  · have t := t.1 p0
    obtain ⟨I2, m3, t⟩ := t
    obtain ⟨I4, v6, m5, t⟩ := t
    exact ⟨_, _, b_X9_soil_22  h_x0 (fun _ => m3) (fun _ => m5) (fun _ => ⟨rfl, rfl⟩) (fun y0 _ => absurd p0 y0) (fun y0 _ => absurd p0 y0) (fun y0 _ => absurd p0 y0), t⟩
  · have t := t.2 p0
    by_cases p1 : ((x1 >>> (x2 &&& 31)) &&& (1 : Int32)) = (1 : Int32)
    · have t := t.1 p1
      obtain ⟨b10, t⟩ := t
      obtain ⟨hf, r, t, q⟩ := t
      exact ⟨hf, r, b_X9_soil_22 (I2 := I) (I4 := I) (v6 := 0) h_x0 (fun y0 => absurd y0 p0) (fun y0 => absurd y0 p0) (fun y0 => absurd y0 p0) (fun _ y1 => absurd p1 y1) (fun _ _ => b10) (fun _ _ => t), q⟩
    · have t := t.2 p1
      obtain ⟨hf, r, t, q⟩ := t
      exact ⟨hf, r, b_X9_soil_22 (I2 := I) (I4 := I) (v6 := 0) h_x0 (fun y0 => absurd y0 p0) (fun y0 => absurd y0 p0) (fun y0 => absurd y0 p0) (fun _ _ => t) (fun _ y1 => absurd y1 p1) (fun _ y1 => absurd y1 p1), q⟩
abbrev s_X9_harmOf_0 (γ : rG) (l : Launch) (x0 : Nat) (x1 : Int32) (h : rHeap) (Q : rHeap → Option Value → Prop) : Prop := rW γ l m_X9_harmOf 0 0 0 [some (.ref x0), some (.int x1), none, none, none, none] [] h Q
theorem w_X9_harmOf_0 {γ : rG} {l : Launch} {Q : rHeap → Option Value → Prop} {sh : Nat × (Nat → Nat) × (Nat → Nat)} {I : Nat → Nat → Int32} {J : Nat → Nat → Int64} {R : Nat → Nat → Option Nat} {x0 : Nat} {x1 : Int32}
    (h_x0 : At9 sh R x0)
    (t : vp_in x1 16 ∧ (vp_in x1 16 ∧ (vp_in x1 16 ∧ (vp_in x1 16 ∧ (∃ (I5 : Nat → Nat → Int32), rMet γ l m_X9_asks [.ref x0, .int (I (x0 + 33) x1.toNatClampNeg), .int (I (x0 + 34) x1.toNatClampNeg), .int (I (x0 + 35) x1.toNatClampNeg), .int x1, .int (I (x0 + 36) x1.toNatClampNeg)] (sh, I, J, R) (sh, I5, J, R) none ∧ (rW γ l m_X9_harmOf 0 0 38 [some (.ref x0), some (.int x1), some (.int (0 : Int32)), some (.int (0 : Int32)), none, none] [] (sh, (up I5 x0 54 (-1 : Int32)), J, R) Q)))))) :
    rW γ l m_X9_harmOf 0 0 0 [some (.ref x0), some (.int x1), none, none, none, none] [] (sh, I, J, R) Q := by
  obtain ⟨b1, t⟩ := t
  obtain ⟨b2, t⟩ := t
  obtain ⟨b3, t⟩ := t
  obtain ⟨b4, t⟩ := t
  obtain ⟨I5, m6, t⟩ := t
  obtain ⟨hf, r, t, q⟩ := t
  exact ⟨hf, r, b_X9_harmOf_0  h_x0 b1 b2 b3 b4 m6 t, q⟩
abbrev s_X9_harmOf_38 (γ : rG) (l : Launch) (x0 : Nat) (x1 : Int32) (x2 : Int32) (x3 : Int32) (h : rHeap) (Q : rHeap → Option Value → Prop) : Prop := rW γ l m_X9_harmOf 0 0 38 [some (.ref x0), some (.int x1), some (.int x2), some (.int x3), none, none] [] h Q
theorem w_X9_harmOf_38 {γ : rG} {l : Launch} {Q : rHeap → Option Value → Prop} {sh : Nat × (Nat → Nat) × (Nat → Nat)} {I : Nat → Nat → Int32} {J : Nat → Nat → Int64} {R : Nat → Nat → Option Nat} {x0 : Nat} {x1 : Int32} {x2 : Int32} {x3 : Int32}
    (h_x0 : At9 sh R x0)
    (t : ((3 : Int32) ≤ x3 → (((I x0 54) = (-1 : Int32) → (vp_in x1 16 ∧ (((I (x0 + 33) x1.toNatClampNeg) = (3 : Int32) → (Q (sh, I, J, R) (some (.int (10 : Int32))))) ∧ (¬ (I (x0 + 33) x1.toNatClampNeg) = (3 : Int32) → (vp_in x1 16 ∧ (((I (x0 + 33) x1.toNatClampNeg) = (4 : Int32) → (Q (sh, I, J, R) (some (.int (10 : Int32))))) ∧ (¬ (I (x0 + 33) x1.toNatClampNeg) = (4 : Int32) → (Q (sh, I, J, R) (some (.int (0 : Int32))))))))))) ∧ (¬ (I x0 54) = (-1 : Int32) → (Q (sh, I, J, R) (some (.int x2)))))) ∧ (¬ (3 : Int32) ≤ x3 → (∃ (I11 : Nat → Nat → Int32) (v13 : Int32), rMet γ l m_X9_ruleOf [.ref x0, .int x3] (sh, I, J, R) (sh, I11, J, R) (some (.int v13)) ∧ ((v13 = (-1 : Int32) → (rW γ l m_X9_harmOf 0 0 38 [some (.ref x0), some (.int x1), some (.int x2), some (.int (x3 + (1 : Int32))), none, none] [] (sh, I11, J, R) Q)) ∧ (¬ v13 = (-1 : Int32) → (∃ (I15 : Nat → Nat → Int32) (v17 : Int32), rMet γ l m_X9_says [.ref x0, .int v13] (sh, I11, J, R) (sh, I15, J, R) (some (.int v17)) ∧ (((I15 x0 54) = (-1 : Int32) → (rW γ l m_X9_harmOf 0 0 38 [some (.ref x0), some (.int x1), some (.int v17), some (.int (x3 + (1 : Int32))), none, none] [] (sh, (up I15 x0 54 v13), J, R) Q)) ∧ (¬ (I15 x0 54) = (-1 : Int32) → ((x2 < v17 → (rW γ l m_X9_harmOf 0 0 38 [some (.ref x0), some (.int x1), some (.int x2), some (.int (x3 + (1 : Int32))), none, none] [] (sh, I15, J, R) Q)) ∧ (¬ x2 < v17 → ((v17 = x2 → ((v13 ≤ (I15 x0 54) → (rW γ l m_X9_harmOf 0 0 38 [some (.ref x0), some (.int x1), some (.int v17), some (.int (x3 + (1 : Int32))), none, none] [] (sh, (up I15 x0 54 v13), J, R) Q)) ∧ (¬ v13 ≤ (I15 x0 54) → (rW γ l m_X9_harmOf 0 0 38 [some (.ref x0), some (.int x1), some (.int x2), some (.int (x3 + (1 : Int32))), none, none] [] (sh, I15, J, R) Q)))) ∧ (¬ v17 = x2 → (rW γ l m_X9_harmOf 0 0 38 [some (.ref x0), some (.int x1), some (.int v17), some (.int (x3 + (1 : Int32))), none, none] [] (sh, (up I15 x0 54 v13), J, R) Q))))))))))))) :
    rW γ l m_X9_harmOf 0 0 38 [some (.ref x0), some (.int x1), some (.int x2), some (.int x3), none, none] [] (sh, I, J, R) Q := by
  by_cases p0 : (3 : Int32) ≤ x3
  · have t := t.1 p0
    by_cases p1 : (I x0 54) = (-1 : Int32)
    · have t := t.1 p1
      obtain ⟨b3, t⟩ := t
      by_cases p2 : (I (x0 + 33) x1.toNatClampNeg) = (3 : Int32)
      · have t := t.1 p2
        exact ⟨_, _, b_X9_harmOf_38 (I11 := I) (v13 := 0) (I15 := I) (v17 := 0) h_x0 (fun _ _ => b3) (fun _ _ _ => ⟨rfl, rfl⟩) (fun _ _ y2 => absurd p2 y2) (fun _ _ y2 _ => absurd p2 y2) (fun _ _ y2 _ => absurd p2 y2) (fun _ y1 => absurd p1 y1) (fun y0 => absurd p0 y0) (fun y0 _ => absurd p0 y0) (fun y0 _ _ => absurd p0 y0) (fun y0 _ _ _ => absurd p0 y0) (fun y0 _ _ _ _ => absurd p0 y0) (fun y0 _ _ _ _ _ => absurd p0 y0) (fun y0 _ _ _ _ _ => absurd p0 y0) (fun y0 _ => absurd p0 y0), t⟩
      · have t := t.2 p2
        obtain ⟨b6, t⟩ := t
        by_cases p3 : (I (x0 + 33) x1.toNatClampNeg) = (4 : Int32)
        · have t := t.1 p3
          exact ⟨_, _, b_X9_harmOf_38 (I11 := I) (v13 := 0) (I15 := I) (v17 := 0) h_x0 (fun _ _ => b3) (fun _ _ y2 => absurd y2 p2) (fun _ _ _ => b6) (fun _ _ _ y3 => absurd p3 y3) (fun _ _ _ _ => ⟨rfl, rfl⟩) (fun _ y1 => absurd p1 y1) (fun y0 => absurd p0 y0) (fun y0 _ => absurd p0 y0) (fun y0 _ _ => absurd p0 y0) (fun y0 _ _ _ => absurd p0 y0) (fun y0 _ _ _ _ => absurd p0 y0) (fun y0 _ _ _ _ _ => absurd p0 y0) (fun y0 _ _ _ _ _ => absurd p0 y0) (fun y0 _ => absurd p0 y0), t⟩
        · have t := t.2 p3
          exact ⟨_, _, b_X9_harmOf_38 (I11 := I) (v13 := 0) (I15 := I) (v17 := 0) h_x0 (fun _ _ => b3) (fun _ _ y2 => absurd y2 p2) (fun _ _ _ => b6) (fun _ _ _ _ => ⟨rfl, rfl⟩) (fun _ _ _ y3 => absurd y3 p3) (fun _ y1 => absurd p1 y1) (fun y0 => absurd p0 y0) (fun y0 _ => absurd p0 y0) (fun y0 _ _ => absurd p0 y0) (fun y0 _ _ _ => absurd p0 y0) (fun y0 _ _ _ _ => absurd p0 y0) (fun y0 _ _ _ _ _ => absurd p0 y0) (fun y0 _ _ _ _ _ => absurd p0 y0) (fun y0 _ => absurd p0 y0), t⟩
    · have t := t.2 p1
      exact ⟨_, _, b_X9_harmOf_38 (I11 := I) (v13 := 0) (I15 := I) (v17 := 0) h_x0 (fun _ y1 => absurd y1 p1) (fun _ y1 _ => absurd y1 p1) (fun _ y1 _ => absurd y1 p1) (fun _ y1 _ _ => absurd y1 p1) (fun _ y1 _ _ => absurd y1 p1) (fun _ _ => ⟨rfl, rfl⟩) (fun y0 => absurd p0 y0) (fun y0 _ => absurd p0 y0) (fun y0 _ _ => absurd p0 y0) (fun y0 _ _ _ => absurd p0 y0) (fun y0 _ _ _ _ => absurd p0 y0) (fun y0 _ _ _ _ _ => absurd p0 y0) (fun y0 _ _ _ _ _ => absurd p0 y0) (fun y0 _ => absurd p0 y0), t⟩
  · have t := t.2 p0
    obtain ⟨I11, v13, m12, t⟩ := t
    by_cases p1 : v13 = (-1 : Int32)
    · have t := t.1 p1
      obtain ⟨hf, r, t, q⟩ := t
      exact ⟨hf, r, b_X9_harmOf_38 (I15 := I) (v17 := 0) h_x0 (fun y0 _ => absurd y0 p0) (fun y0 _ _ => absurd y0 p0) (fun y0 _ _ => absurd y0 p0) (fun y0 _ _ _ => absurd y0 p0) (fun y0 _ _ _ => absurd y0 p0) (fun y0 _ => absurd y0 p0) (fun _ => m12) (fun _ y1 => absurd p1 y1) (fun _ y1 _ => absurd p1 y1) (fun _ y1 _ _ => absurd p1 y1) (fun _ y1 _ _ _ => absurd p1 y1) (fun _ y1 _ _ _ _ => absurd p1 y1) (fun _ y1 _ _ _ _ => absurd p1 y1) (fun _ _ => t), q⟩
    · have t := t.2 p1
      obtain ⟨I15, v17, m16, t⟩ := t
      by_cases p2 : (I15 x0 54) = (-1 : Int32)
      · have t := t.1 p2
        obtain ⟨hf, r, t, q⟩ := t
        exact ⟨hf, r, b_X9_harmOf_38  h_x0 (fun y0 _ => absurd y0 p0) (fun y0 _ _ => absurd y0 p0) (fun y0 _ _ => absurd y0 p0) (fun y0 _ _ _ => absurd y0 p0) (fun y0 _ _ _ => absurd y0 p0) (fun y0 _ => absurd y0 p0) (fun _ => m12) (fun _ _ => m16) (fun _ _ _ => t) (fun _ _ y2 _ => absurd p2 y2) (fun _ _ y2 _ _ => absurd p2 y2) (fun _ _ y2 _ _ _ => absurd p2 y2) (fun _ _ y2 _ _ _ => absurd p2 y2) (fun _ y1 => absurd y1 p1), q⟩
      · have t := t.2 p2
        by_cases p3 : x2 < v17
        · have t := t.1 p3
          obtain ⟨hf, r, t, q⟩ := t
          exact ⟨hf, r, b_X9_harmOf_38  h_x0 (fun y0 _ => absurd y0 p0) (fun y0 _ _ => absurd y0 p0) (fun y0 _ _ => absurd y0 p0) (fun y0 _ _ _ => absurd y0 p0) (fun y0 _ _ _ => absurd y0 p0) (fun y0 _ => absurd y0 p0) (fun _ => m12) (fun _ _ => m16) (fun _ _ y2 => absurd y2 p2) (fun _ _ _ _ => t) (fun _ _ _ y3 _ => absurd p3 y3) (fun _ _ _ y3 _ _ => absurd p3 y3) (fun _ _ _ y3 _ _ => absurd p3 y3) (fun _ y1 => absurd y1 p1), q⟩
        · have t := t.2 p3
          by_cases p4 : v17 = x2
          · have t := t.1 p4
            by_cases p5 : v13 ≤ (I15 x0 54)
            · have t := t.1 p5
              obtain ⟨hf, r, t, q⟩ := t
              exact ⟨hf, r, b_X9_harmOf_38  h_x0 (fun y0 _ => absurd y0 p0) (fun y0 _ _ => absurd y0 p0) (fun y0 _ _ => absurd y0 p0) (fun y0 _ _ _ => absurd y0 p0) (fun y0 _ _ _ => absurd y0 p0) (fun y0 _ => absurd y0 p0) (fun _ => m12) (fun _ _ => m16) (fun _ _ y2 => absurd y2 p2) (fun _ _ _ y3 => absurd y3 p3) (fun _ _ _ _ y4 => absurd p4 y4) (fun _ _ _ _ _ _ => t) (fun _ _ _ _ _ y5 => absurd p5 y5) (fun _ y1 => absurd y1 p1), q⟩
            · have t := t.2 p5
              obtain ⟨hf, r, t, q⟩ := t
              exact ⟨hf, r, b_X9_harmOf_38  h_x0 (fun y0 _ => absurd y0 p0) (fun y0 _ _ => absurd y0 p0) (fun y0 _ _ => absurd y0 p0) (fun y0 _ _ _ => absurd y0 p0) (fun y0 _ _ _ => absurd y0 p0) (fun y0 _ => absurd y0 p0) (fun _ => m12) (fun _ _ => m16) (fun _ _ y2 => absurd y2 p2) (fun _ _ _ y3 => absurd y3 p3) (fun _ _ _ _ y4 => absurd p4 y4) (fun _ _ _ _ _ y5 => absurd y5 p5) (fun _ _ _ _ _ _ => t) (fun _ y1 => absurd y1 p1), q⟩
          · have t := t.2 p4
            obtain ⟨hf, r, t, q⟩ := t
            exact ⟨hf, r, b_X9_harmOf_38  h_x0 (fun y0 _ => absurd y0 p0) (fun y0 _ _ => absurd y0 p0) (fun y0 _ _ => absurd y0 p0) (fun y0 _ _ _ => absurd y0 p0) (fun y0 _ _ _ => absurd y0 p0) (fun y0 _ => absurd y0 p0) (fun _ => m12) (fun _ _ => m16) (fun _ _ y2 => absurd y2 p2) (fun _ _ _ y3 => absurd y3 p3) (fun _ _ _ _ _ => t) (fun _ _ _ _ y4 _ => absurd y4 p4) (fun _ _ _ _ y4 _ => absurd y4 p4) (fun _ y1 => absurd y1 p1), q⟩
abbrev s_X9_harm_0 (γ : rG) (l : Launch) (x0 : Nat) (x1 : Int32) (h : rHeap) (Q : rHeap → Option Value → Prop) : Prop := rW γ l m_X9_harm 0 0 0 [some (.ref x0), some (.int x1)] [] h Q
theorem w_X9_harm_0 {γ : rG} {l : Launch} {Q : rHeap → Option Value → Prop} {sh : Nat × (Nat → Nat) × (Nat → Nat)} {I : Nat → Nat → Int32} {J : Nat → Nat → Int64} {R : Nat → Nat → Option Nat} {x0 : Nat} {x1 : Int32}
    (h_x0 : At9 sh R x0)
    (t : (x1 < 0 → (Q (sh, I, J, R) (some (.int (-1 : Int32))))) ∧ (¬ x1 < 0 → (((I x0 48) ≤ x1 → (Q (sh, I, J, R) (some (.int (-1 : Int32))))) ∧ (¬ (I x0 48) ≤ x1 → (∃ (I5 : Nat → Nat → Int32) (v7 : Int32), rMet γ l m_X9_harmOf [.ref x0, .int x1] (sh, I, J, R) (sh, I5, J, R) (some (.int v7)) ∧ (Q (sh, I5, J, R) (some (.int v7)))))))) :
    rW γ l m_X9_harm 0 0 0 [some (.ref x0), some (.int x1)] [] (sh, I, J, R) Q := by
  by_cases p0 : x1 < 0
  · have t := t.1 p0
    exact ⟨_, _, b_X9_harm_0 (I5 := I) (v7 := 0) h_x0 (fun _ => ⟨rfl, rfl⟩) (fun y0 _ => absurd p0 y0) (fun y0 _ => absurd p0 y0) (fun y0 _ => absurd p0 y0), t⟩
  · have t := t.2 p0
    by_cases p1 : (I x0 48) ≤ x1
    · have t := t.1 p1
      exact ⟨_, _, b_X9_harm_0 (I5 := I) (v7 := 0) h_x0 (fun y0 => absurd y0 p0) (fun _ _ => ⟨rfl, rfl⟩) (fun _ y1 => absurd p1 y1) (fun _ y1 => absurd p1 y1), t⟩
    · have t := t.2 p1
      obtain ⟨I5, v7, m6, t⟩ := t
      exact ⟨_, _, b_X9_harm_0  h_x0 (fun y0 => absurd y0 p0) (fun _ y1 => absurd y1 p1) (fun _ _ => m6) (fun _ _ => ⟨rfl, rfl⟩), t⟩
abbrev s_X9_by_0 (γ : rG) (l : Launch) (x0 : Nat) (x1 : Int32) (h : rHeap) (Q : rHeap → Option Value → Prop) : Prop := rW γ l m_X9_by 0 0 0 [some (.ref x0), some (.int x1), none] [] h Q
theorem w_X9_by_0 {γ : rG} {l : Launch} {Q : rHeap → Option Value → Prop} {sh : Nat × (Nat → Nat) × (Nat → Nat)} {I : Nat → Nat → Int32} {J : Nat → Nat → Int64} {R : Nat → Nat → Option Nat} {x0 : Nat} {x1 : Int32}
    (h_x0 : At9 sh R x0)
    (t : (x1 < 0 → (Q (sh, I, J, R) (some (.int (-1 : Int32))))) ∧ (¬ x1 < 0 → ((x1 < (I x0 48) → (∃ (I4 : Nat → Nat → Int32) (v6 : Int32), rMet γ l m_X9_harmOf [.ref x0, .int x1] (sh, I, J, R) (sh, I4, J, R) (some (.int v6)) ∧ ((0 ≤ v6 → (Q (sh, I4, J, R) (some (.int (I4 x0 54))))) ∧ (¬ 0 ≤ v6 → (Q (sh, I4, J, R) (some (.int (-1 : Int32)))))))) ∧ (¬ x1 < (I x0 48) → (Q (sh, I, J, R) (some (.int (-1 : Int32)))))))) :
    rW γ l m_X9_by 0 0 0 [some (.ref x0), some (.int x1), none] [] (sh, I, J, R) Q := by
  by_cases p0 : x1 < 0
  · have t := t.1 p0
    exact ⟨_, _, b_X9_by_0 (I4 := I) (v6 := 0) h_x0 (fun _ => ⟨rfl, rfl⟩) (fun y0 _ => absurd p0 y0) (fun y0 _ _ => absurd p0 y0) (fun y0 _ _ => absurd p0 y0) (fun y0 _ => absurd p0 y0), t⟩
  · have t := t.2 p0
    by_cases p1 : x1 < (I x0 48)
    · have t := t.1 p1
      obtain ⟨I4, v6, m5, t⟩ := t
      by_cases p2 : 0 ≤ v6
      · have t := t.1 p2
        exact ⟨_, _, b_X9_by_0  h_x0 (fun y0 => absurd y0 p0) (fun _ _ => m5) (fun _ _ _ => ⟨rfl, rfl⟩) (fun _ _ y2 => absurd p2 y2) (fun _ y1 => absurd p1 y1), t⟩
      · have t := t.2 p2
        exact ⟨_, _, b_X9_by_0  h_x0 (fun y0 => absurd y0 p0) (fun _ _ => m5) (fun _ _ y2 => absurd y2 p2) (fun _ _ _ => ⟨rfl, rfl⟩) (fun _ y1 => absurd p1 y1), t⟩
    · have t := t.2 p1
      exact ⟨_, _, b_X9_by_0 (I4 := I) (v6 := 0) h_x0 (fun y0 => absurd y0 p0) (fun _ y1 => absurd y1 p1) (fun _ y1 _ => absurd y1 p1) (fun _ y1 _ => absurd y1 p1) (fun _ _ => ⟨rfl, rfl⟩), t⟩
abbrev s_X9_undo_0 (γ : rG) (l : Launch) (x0 : Nat) (h : rHeap) (Q : rHeap → Option Value → Prop) : Prop := rW γ l m_X9_undo 0 0 0 [some (.ref x0), none] [] h Q
theorem w_X9_undo_0 {γ : rG} {l : Launch} {Q : rHeap → Option Value → Prop} {sh : Nat × (Nat → Nat) × (Nat → Nat)} {I : Nat → Nat → Int32} {J : Nat → Nat → Int64} {R : Nat → Nat → Option Nat} {x0 : Nat}
    (h_x0 : At9 sh R x0)
    (t : ((I x0 48) = 0 → (Q (sh, I, J, R) (some (.int (-1 : Int32))))) ∧ (¬ (I x0 48) = 0 → (∃ (I2 : Nat → Nat → Int32) (v4 : Int32), rMet γ l m_X9_harmOf [.ref x0, .int ((I x0 48) - (1 : Int32))] (sh, I, J, R) (sh, I2, J, R) (some (.int v4)) ∧ (Q (sh, (up I2 x0 48 (((I2 x0 48) - (1 : Int32)))), J, R) (some (.int v4)))))) :
    rW γ l m_X9_undo 0 0 0 [some (.ref x0), none] [] (sh, I, J, R) Q := by
  by_cases p0 : (I x0 48) = 0
  · have t := t.1 p0
    exact ⟨_, _, b_X9_undo_0 (I2 := I) (v4 := 0) h_x0 (fun y0 => absurd p0 y0) (fun y0 => absurd p0 y0) (fun _ => ⟨rfl, rfl⟩), t⟩
  · have t := t.2 p0
    obtain ⟨I2, v4, m3, t⟩ := t
    exact ⟨_, _, b_X9_undo_0  h_x0 (fun _ => m3) (fun _ => ⟨rfl, rfl⟩) (fun y0 => absurd y0 p0), t⟩
abbrev s_X9_isRead_0 (γ : rG) (l : Launch) (x0 : Nat) (x1 : Int32) (x2 : Int32) (h : rHeap) (Q : rHeap → Option Value → Prop) : Prop := rW γ l m_X9_isRead 0 0 0 [some (.ref x0), some (.int x1), some (.int x2), none] [] h Q
theorem w_X9_isRead_0 {γ : rG} {l : Launch} {Q : rHeap → Option Value → Prop} {sh : Nat × (Nat → Nat) × (Nat → Nat)} {I : Nat → Nat → Int32} {J : Nat → Nat → Int64} {R : Nat → Nat → Option Nat} {x0 : Nat} {x1 : Int32} {x2 : Int32}
    (h_x0 : At9 sh R x0)
    (t : vp_in ((((8 : Int32) * x1) + x2)) 176 ∧ (vp_in ((((8 : Int32) * x1) + x2)) 176 ∧ (((I (x0 + 28) ((((8 : Int32) * x1) + x2)).toNatClampNeg) = 0 → (((I (x0 + 27) ((((8 : Int32) * x1) + x2)).toNatClampNeg) = 0 → (Q (sh, I, J, R) (some (.int (1 : Int32))))) ∧ (¬ (I (x0 + 27) ((((8 : Int32) * x1) + x2)).toNatClampNeg) = 0 → (Q (sh, I, J, R) (some (.int (0 : Int32))))))) ∧ (¬ (I (x0 + 28) ((((8 : Int32) * x1) + x2)).toNatClampNeg) = 0 → (vp_in ((((8 : Int32) * x1) + x2)) 176 ∧ (∃ (v9 : Int32), rMet γ l m_X9_layersOf [.ref x0, .int x1, .int (I (x0 + 26) ((((8 : Int32) * x1) + x2)).toNatClampNeg)] (sh, I, J, R) (sh, I, J, R) (some (.int v9)) ∧ (((I (x0 + 27) ((((8 : Int32) * x1) + x2)).toNatClampNeg) = (v9 - (1 : Int32)) → (Q (sh, I, J, R) (some (.int (1 : Int32))))) ∧ (¬ (I (x0 + 27) ((((8 : Int32) * x1) + x2)).toNatClampNeg) = (v9 - (1 : Int32)) → (Q (sh, I, J, R) (some (.int (0 : Int32)))))))))))) :
    rW γ l m_X9_isRead 0 0 0 [some (.ref x0), some (.int x1), some (.int x2), none] [] (sh, I, J, R) Q := by
  obtain ⟨b1, t⟩ := t
  obtain ⟨b2, t⟩ := t
  by_cases p0 : (I (x0 + 28) ((((8 : Int32) * x1) + x2)).toNatClampNeg) = 0
  · have t := t.1 p0
    by_cases p1 : (I (x0 + 27) ((((8 : Int32) * x1) + x2)).toNatClampNeg) = 0
    · have t := t.1 p1
      exact ⟨_, _, b_X9_isRead_0 (v9 := 0) h_x0 b1 b2 (fun _ y1 => absurd p1 y1) (fun _ _ => ⟨rfl, rfl⟩) (fun y0 => absurd p0 y0) (fun y0 => absurd p0 y0) (fun y0 _ => absurd p0 y0) (fun y0 _ => absurd p0 y0), t⟩
    · have t := t.2 p1
      exact ⟨_, _, b_X9_isRead_0 (v9 := 0) h_x0 b1 b2 (fun _ _ => ⟨rfl, rfl⟩) (fun _ y1 => absurd y1 p1) (fun y0 => absurd p0 y0) (fun y0 => absurd p0 y0) (fun y0 _ => absurd p0 y0) (fun y0 _ => absurd p0 y0), t⟩
  · have t := t.2 p0
    obtain ⟨b7, t⟩ := t
    obtain ⟨v9, m8, t⟩ := t
    by_cases p1 : (I (x0 + 27) ((((8 : Int32) * x1) + x2)).toNatClampNeg) = (v9 - (1 : Int32))
    · have t := t.1 p1
      exact ⟨_, _, b_X9_isRead_0  h_x0 b1 b2 (fun y0 _ => absurd y0 p0) (fun y0 _ => absurd y0 p0) (fun _ => b7) (fun _ => m8) (fun _ y1 => absurd p1 y1) (fun _ _ => ⟨rfl, rfl⟩), t⟩
    · have t := t.2 p1
      exact ⟨_, _, b_X9_isRead_0  h_x0 b1 b2 (fun y0 _ => absurd y0 p0) (fun y0 _ => absurd y0 p0) (fun _ => b7) (fun _ => m8) (fun _ _ => ⟨rfl, rfl⟩) (fun _ y1 => absurd y1 p1), t⟩
abbrev s_X9_isOpen_0 (γ : rG) (l : Launch) (x0 : Nat) (x1 : Int32) (x2 : Int32) (x3 : Int32) (x4 : Int32) (h : rHeap) (Q : rHeap → Option Value → Prop) : Prop := rW γ l m_X9_isOpen 0 0 0 [some (.ref x0), some (.int x1), some (.int x2), some (.int x3), some (.int x4), none, none] [] h Q
theorem w_X9_isOpen_0 {γ : rG} {l : Launch} {Q : rHeap → Option Value → Prop} {sh : Nat × (Nat → Nat) × (Nat → Nat)} {I : Nat → Nat → Int32} {J : Nat → Nat → Int64} {R : Nat → Nat → Option Nat} {x0 : Nat} {x1 : Int32} {x2 : Int32} {x3 : Int32} {x4 : Int32}
    (h_x0 : At9 sh R x0)
    (t : vp_in ((((8 : Int32) * x1) + x2)) 176 ∧ (vp_in ((((8 : Int32) * x1) + x3)) 176 ∧ (((I (x0 + 27) ((((8 : Int32) * x1) + x3)).toNatClampNeg) ≤ (I (x0 + 27) ((((8 : Int32) * x1) + x2)).toNatClampNeg) → (vp_in ((((8 : Int32) * x1) + x3)) 176 ∧ (rW γ l m_X9_isOpen 0 0 55 [some (.ref x0), some (.int x1), some (.int x2), none, some (.int x4), some (.int (I (x0 + 27) ((((8 : Int32) * x1) + x3)).toNatClampNeg)), some (.int (0 : Int32))] [] (sh, I, J, R) Q))) ∧ (¬ (I (x0 + 27) ((((8 : Int32) * x1) + x3)).toNatClampNeg) ≤ (I (x0 + 27) ((((8 : Int32) * x1) + x2)).toNatClampNeg) → (vp_in ((((8 : Int32) * x1) + x2)) 176 ∧ (rW γ l m_X9_isOpen 0 0 55 [some (.ref x0), some (.int x1), some (.int x2), none, some (.int x4), some (.int (I (x0 + 27) ((((8 : Int32) * x1) + x2)).toNatClampNeg)), some (.int (0 : Int32))] [] (sh, I, J, R) Q)))))) :
    rW γ l m_X9_isOpen 0 0 0 [some (.ref x0), some (.int x1), some (.int x2), some (.int x3), some (.int x4), none, none] [] (sh, I, J, R) Q := by
  obtain ⟨b1, t⟩ := t
  obtain ⟨b2, t⟩ := t
  by_cases p0 : (I (x0 + 27) ((((8 : Int32) * x1) + x3)).toNatClampNeg) ≤ (I (x0 + 27) ((((8 : Int32) * x1) + x2)).toNatClampNeg)
  · have t := t.1 p0
    obtain ⟨b4, t⟩ := t
    obtain ⟨hf, r, t, q⟩ := t
    exact ⟨hf, r, b_X9_isOpen_0  h_x0 b1 b2 (fun _ => b4) (fun _ => t) (fun y0 => absurd p0 y0) (fun y0 => absurd p0 y0), q⟩
  · have t := t.2 p0
    obtain ⟨b6, t⟩ := t
    obtain ⟨hf, r, t, q⟩ := t
    exact ⟨hf, r, b_X9_isOpen_0  h_x0 b1 b2 (fun y0 => absurd y0 p0) (fun y0 => absurd y0 p0) (fun _ => b6) (fun _ => t), q⟩
abbrev s_X9_isOpen_55 (γ : rG) (l : Launch) (x0 : Nat) (x1 : Int32) (x2 : Int32) (x4 : Int32) (x5 : Int32) (x6 : Int32) (h : rHeap) (Q : rHeap → Option Value → Prop) : Prop := rW γ l m_X9_isOpen 0 0 55 [some (.ref x0), some (.int x1), some (.int x2), none, some (.int x4), some (.int x5), some (.int x6)] [] h Q
theorem w_X9_isOpen_55 {γ : rG} {l : Launch} {Q : rHeap → Option Value → Prop} {sh : Nat × (Nat → Nat) × (Nat → Nat)} {I : Nat → Nat → Int32} {J : Nat → Nat → Int64} {R : Nat → Nat → Option Nat} {x0 : Nat} {x1 : Int32} {x2 : Int32} {x4 : Int32} {x5 : Int32} {x6 : Int32}
    (h_x0 : At9 sh R x0)
    (t : ((I x0 39) ≤ (x6 + (1 : Int32)) → (Q (sh, I, J, R) (some (.int (1 : Int32))))) ∧ (¬ (I x0 39) ≤ (x6 + (1 : Int32)) → (∃ (v4 : Int32), rMet γ l m_X9_isCrease [.ref x0, .int x1, .int x6] (sh, I, J, R) (sh, I, J, R) (some (.int v4)) ∧ ((v4 = 0 → (rW γ l m_X9_isOpen 0 0 55 [some (.ref x0), some (.int x1), some (.int x2), none, some (.int x4), some (.int x5), some (.int (x6 + (1 : Int32)))] [] (sh, I, J, R) Q)) ∧ (¬ v4 = 0 → (vp_in ((((8 : Int32) * x1) + x6)) 176 ∧ (vp_in ((((8 : Int32) * x1) + x2)) 176 ∧ (((I (x0 + 26) ((((8 : Int32) * x1) + x6)).toNatClampNeg) = (I (x0 + 26) ((((8 : Int32) * x1) + x2)).toNatClampNeg) → (vp_in ((((8 : Int32) * x1) + x6)) 176 ∧ (((I (x0 + 28) ((((8 : Int32) * x1) + x6)).toNatClampNeg) = x4 → (∃ (v15 : Int32), rMet γ l m_X9_low [.ref x0, .int x1, .int x6] (sh, I, J, R) (sh, I, J, R) (some (.int v15)) ∧ ((x5 < v15 → (rW γ l m_X9_isOpen 0 0 55 [some (.ref x0), some (.int x1), some (.int x2), none, some (.int x4), some (.int x5), some (.int (x6 + (1 : Int32)))] [] (sh, I, J, R) Q)) ∧ (¬ x5 < v15 → (∃ (v19 : Int32), rMet γ l m_X9_high [.ref x0, .int x1, .int x6] (sh, I, J, R) (sh, I, J, R) (some (.int v19)) ∧ ((v19 < (x5 + (1 : Int32)) → (rW γ l m_X9_isOpen 0 0 55 [some (.ref x0), some (.int x1), some (.int x2), none, some (.int x4), some (.int x5), some (.int (x6 + (1 : Int32)))] [] (sh, I, J, R) Q)) ∧ (¬ v19 < (x5 + (1 : Int32)) → (Q (sh, I, J, R) (some (.int (0 : Int32))))))))))) ∧ (¬ (I (x0 + 28) ((((8 : Int32) * x1) + x6)).toNatClampNeg) = x4 → (rW γ l m_X9_isOpen 0 0 55 [some (.ref x0), some (.int x1), some (.int x2), none, some (.int x4), some (.int x5), some (.int (x6 + (1 : Int32)))] [] (sh, I, J, R) Q))))) ∧ (¬ (I (x0 + 26) ((((8 : Int32) * x1) + x6)).toNatClampNeg) = (I (x0 + 26) ((((8 : Int32) * x1) + x2)).toNatClampNeg) → (rW γ l m_X9_isOpen 0 0 55 [some (.ref x0), some (.int x1), some (.int x2), none, some (.int x4), some (.int x5), some (.int (x6 + (1 : Int32)))] [] (sh, I, J, R) Q)))))))))) :
    rW γ l m_X9_isOpen 0 0 55 [some (.ref x0), some (.int x1), some (.int x2), none, some (.int x4), some (.int x5), some (.int x6)] [] (sh, I, J, R) Q := by
  by_cases p0 : (I x0 39) ≤ (x6 + (1 : Int32))
  · have t := t.1 p0
    exact ⟨_, _, b_X9_isOpen_55 (v4 := 0) (v15 := 0) (v19 := 0) h_x0 (fun _ => ⟨rfl, rfl⟩) (fun y0 => absurd p0 y0) (fun y0 _ => absurd p0 y0) (fun y0 _ => absurd p0 y0) (fun y0 _ => absurd p0 y0) (fun y0 _ _ => absurd p0 y0) (fun y0 _ _ => absurd p0 y0) (fun y0 _ _ _ => absurd p0 y0) (fun y0 _ _ _ => absurd p0 y0) (fun y0 _ _ _ _ => absurd p0 y0) (fun y0 _ _ _ _ => absurd p0 y0) (fun y0 _ _ _ _ _ => absurd p0 y0) (fun y0 _ _ _ _ _ => absurd p0 y0), t⟩
  · have t := t.2 p0
    obtain ⟨v4, m3, t⟩ := t
    by_cases p1 : v4 = 0
    · have t := t.1 p1
      obtain ⟨hf, r, t, q⟩ := t
      exact ⟨hf, r, b_X9_isOpen_55 (v15 := 0) (v19 := 0) h_x0 (fun y0 => absurd y0 p0) (fun _ => m3) (fun _ _ => t) (fun _ y1 => absurd p1 y1) (fun _ y1 => absurd p1 y1) (fun _ y1 _ => absurd p1 y1) (fun _ y1 _ => absurd p1 y1) (fun _ y1 _ _ => absurd p1 y1) (fun _ y1 _ _ => absurd p1 y1) (fun _ y1 _ _ _ => absurd p1 y1) (fun _ y1 _ _ _ => absurd p1 y1) (fun _ y1 _ _ _ _ => absurd p1 y1) (fun _ y1 _ _ _ _ => absurd p1 y1), q⟩
    · have t := t.2 p1
      obtain ⟨b7, t⟩ := t
      obtain ⟨b8, t⟩ := t
      by_cases p2 : (I (x0 + 26) ((((8 : Int32) * x1) + x6)).toNatClampNeg) = (I (x0 + 26) ((((8 : Int32) * x1) + x2)).toNatClampNeg)
      · have t := t.1 p2
        obtain ⟨b11, t⟩ := t
        by_cases p3 : (I (x0 + 28) ((((8 : Int32) * x1) + x6)).toNatClampNeg) = x4
        · have t := t.1 p3
          obtain ⟨v15, m14, t⟩ := t
          by_cases p4 : x5 < v15
          · have t := t.1 p4
            obtain ⟨hf, r, t, q⟩ := t
            exact ⟨hf, r, b_X9_isOpen_55 (v19 := 0) h_x0 (fun y0 => absurd y0 p0) (fun _ => m3) (fun _ y1 => absurd y1 p1) (fun _ _ => b7) (fun _ _ => b8) (fun _ _ y2 => absurd p2 y2) (fun _ _ _ => b11) (fun _ _ _ y3 => absurd p3 y3) (fun _ _ _ _ => m14) (fun _ _ _ _ _ => t) (fun _ _ _ _ y4 => absurd p4 y4) (fun _ _ _ _ y4 _ => absurd p4 y4) (fun _ _ _ _ y4 _ => absurd p4 y4), q⟩
          · have t := t.2 p4
            obtain ⟨v19, m18, t⟩ := t
            by_cases p5 : v19 < (x5 + (1 : Int32))
            · have t := t.1 p5
              obtain ⟨hf, r, t, q⟩ := t
              exact ⟨hf, r, b_X9_isOpen_55  h_x0 (fun y0 => absurd y0 p0) (fun _ => m3) (fun _ y1 => absurd y1 p1) (fun _ _ => b7) (fun _ _ => b8) (fun _ _ y2 => absurd p2 y2) (fun _ _ _ => b11) (fun _ _ _ y3 => absurd p3 y3) (fun _ _ _ _ => m14) (fun _ _ _ _ y4 => absurd y4 p4) (fun _ _ _ _ _ => m18) (fun _ _ _ _ _ _ => t) (fun _ _ _ _ _ y5 => absurd p5 y5), q⟩
            · have t := t.2 p5
              exact ⟨_, _, b_X9_isOpen_55  h_x0 (fun y0 => absurd y0 p0) (fun _ => m3) (fun _ y1 => absurd y1 p1) (fun _ _ => b7) (fun _ _ => b8) (fun _ _ y2 => absurd p2 y2) (fun _ _ _ => b11) (fun _ _ _ y3 => absurd p3 y3) (fun _ _ _ _ => m14) (fun _ _ _ _ y4 => absurd y4 p4) (fun _ _ _ _ _ => m18) (fun _ _ _ _ _ y5 => absurd y5 p5) (fun _ _ _ _ _ _ => ⟨rfl, rfl⟩), t⟩
        · have t := t.2 p3
          obtain ⟨hf, r, t, q⟩ := t
          exact ⟨hf, r, b_X9_isOpen_55 (v15 := 0) (v19 := 0) h_x0 (fun y0 => absurd y0 p0) (fun _ => m3) (fun _ y1 => absurd y1 p1) (fun _ _ => b7) (fun _ _ => b8) (fun _ _ y2 => absurd p2 y2) (fun _ _ _ => b11) (fun _ _ _ _ => t) (fun _ _ _ y3 => absurd y3 p3) (fun _ _ _ y3 _ => absurd y3 p3) (fun _ _ _ y3 _ => absurd y3 p3) (fun _ _ _ y3 _ _ => absurd y3 p3) (fun _ _ _ y3 _ _ => absurd y3 p3), q⟩
      · have t := t.2 p2
        obtain ⟨hf, r, t, q⟩ := t
        exact ⟨hf, r, b_X9_isOpen_55 (v15 := 0) (v19 := 0) h_x0 (fun y0 => absurd y0 p0) (fun _ => m3) (fun _ y1 => absurd y1 p1) (fun _ _ => b7) (fun _ _ => b8) (fun _ _ _ => t) (fun _ _ y2 => absurd y2 p2) (fun _ _ y2 _ => absurd y2 p2) (fun _ _ y2 _ => absurd y2 p2) (fun _ _ y2 _ _ => absurd y2 p2) (fun _ _ y2 _ _ => absurd y2 p2) (fun _ _ y2 _ _ _ => absurd y2 p2) (fun _ _ y2 _ _ _ => absurd y2 p2), q⟩
abbrev s_X9_peepOf_0 (γ : rG) (l : Launch) (x0 : Nat) (x1 : Int32) (x2 : Int32) (h : rHeap) (Q : rHeap → Option Value → Prop) : Prop := rW γ l m_X9_peepOf 0 0 0 [some (.ref x0), some (.int x1), some (.int x2), none, none, none, none, none] [] h Q
theorem w_X9_peepOf_0 {γ : rG} {l : Launch} {Q : rHeap → Option Value → Prop} {sh : Nat × (Nat → Nat) × (Nat → Nat)} {I : Nat → Nat → Int32} {J : Nat → Nat → Int64} {R : Nat → Nat → Option Nat} {x0 : Nat} {x1 : Int32} {x2 : Int32}
    (h_x0 : At9 sh R x0)
    (t : vp_in ((((8 : Int32) * x1) + x2)) 176 ∧ (vp_in ((((8 : Int32) * x1) + x2)) 176 ∧ (vp_in ((((8 : Int32) * x1) + x2)) 176 ∧ (((I (x0 + 28) ((((8 : Int32) * x1) + x2)).toNatClampNeg) = 0 → (∃ (v6 : Int32), rMet γ l m_X9_partAt [.ref x0, .int x1, .int (I (x0 + 26) ((((8 : Int32) * x1) + x2)).toNatClampNeg), .int ((I (x0 + 27) ((((8 : Int32) * x1) + x2)).toNatClampNeg) - (1 : Int32))] (sh, I, J, R) (sh, I, J, R) (some (.int v6)) ∧ ((v6 = (-1 : Int32) → (Q (sh, I, J, R) (some (.int (-1 : Int32))))) ∧ (¬ v6 = (-1 : Int32) → (rW γ l m_X9_peepOf 0 0 69 [some (.ref x0), some (.int x1), some (.int x2), some (.int (I (x0 + 26) ((((8 : Int32) * x1) + x2)).toNatClampNeg)), some (.int (I (x0 + 27) ((((8 : Int32) * x1) + x2)).toNatClampNeg)), some (.int v6), some (.int (0 : Int32)), none] [] (sh, I, J, R) Q))))) ∧ (¬ (I (x0 + 28) ((((8 : Int32) * x1) + x2)).toNatClampNeg) = 0 → (∃ (v11 : Int32), rMet γ l m_X9_partAt [.ref x0, .int x1, .int (I (x0 + 26) ((((8 : Int32) * x1) + x2)).toNatClampNeg), .int ((I (x0 + 27) ((((8 : Int32) * x1) + x2)).toNatClampNeg) + (1 : Int32))] (sh, I, J, R) (sh, I, J, R) (some (.int v11)) ∧ ((v11 = (-1 : Int32) → (Q (sh, I, J, R) (some (.int (-1 : Int32))))) ∧ (¬ v11 = (-1 : Int32) → (rW γ l m_X9_peepOf 0 0 69 [some (.ref x0), some (.int x1), some (.int x2), some (.int (I (x0 + 26) ((((8 : Int32) * x1) + x2)).toNatClampNeg)), some (.int (I (x0 + 27) ((((8 : Int32) * x1) + x2)).toNatClampNeg)), some (.int v11), some (.int (0 : Int32)), none] [] (sh, I, J, R) Q))))))))) :
    rW γ l m_X9_peepOf 0 0 0 [some (.ref x0), some (.int x1), some (.int x2), none, none, none, none, none] [] (sh, I, J, R) Q := by
  obtain ⟨b1, t⟩ := t
  obtain ⟨b2, t⟩ := t
  obtain ⟨b3, t⟩ := t
  by_cases p0 : (I (x0 + 28) ((((8 : Int32) * x1) + x2)).toNatClampNeg) = 0
  · have t := t.1 p0
    obtain ⟨v6, m5, t⟩ := t
    by_cases p1 : v6 = (-1 : Int32)
    · have t := t.1 p1
      exact ⟨_, _, b_X9_peepOf_0 (v11 := 0) h_x0 b1 b2 b3 (fun _ => m5) (fun _ y1 => absurd p1 y1) (fun _ _ => ⟨rfl, rfl⟩) (fun y0 => absurd p0 y0) (fun y0 _ => absurd p0 y0) (fun y0 _ => absurd p0 y0), t⟩
    · have t := t.2 p1
      obtain ⟨hf, r, t, q⟩ := t
      exact ⟨hf, r, b_X9_peepOf_0 (v11 := 0) h_x0 b1 b2 b3 (fun _ => m5) (fun _ _ => t) (fun _ y1 => absurd y1 p1) (fun y0 => absurd p0 y0) (fun y0 _ => absurd p0 y0) (fun y0 _ => absurd p0 y0), q⟩
  · have t := t.2 p0
    obtain ⟨v11, m10, t⟩ := t
    by_cases p1 : v11 = (-1 : Int32)
    · have t := t.1 p1
      exact ⟨_, _, b_X9_peepOf_0 (v6 := 0) h_x0 b1 b2 b3 (fun y0 => absurd y0 p0) (fun y0 _ => absurd y0 p0) (fun y0 _ => absurd y0 p0) (fun _ => m10) (fun _ y1 => absurd p1 y1) (fun _ _ => ⟨rfl, rfl⟩), t⟩
    · have t := t.2 p1
      obtain ⟨hf, r, t, q⟩ := t
      exact ⟨hf, r, b_X9_peepOf_0 (v6 := 0) h_x0 b1 b2 b3 (fun y0 => absurd y0 p0) (fun y0 _ => absurd y0 p0) (fun y0 _ => absurd y0 p0) (fun _ => m10) (fun _ _ => t) (fun _ y1 => absurd y1 p1), q⟩
abbrev s_X9_peepOf_69 (γ : rG) (l : Launch) (x0 : Nat) (x1 : Int32) (x2 : Int32) (x3 : Int32) (x4 : Int32) (x5 : Int32) (x6 : Int32) (h : rHeap) (Q : rHeap → Option Value → Prop) : Prop := rW γ l m_X9_peepOf 0 0 69 [some (.ref x0), some (.int x1), some (.int x2), some (.int x3), some (.int x4), some (.int x5), some (.int x6), none] [] h Q
theorem w_X9_peepOf_69 {γ : rG} {l : Launch} {Q : rHeap → Option Value → Prop} {sh : Nat × (Nat → Nat) × (Nat → Nat)} {I : Nat → Nat → Int32} {J : Nat → Nat → Int64} {R : Nat → Nat → Option Nat} {x0 : Nat} {x1 : Int32} {x2 : Int32} {x3 : Int32} {x4 : Int32} {x5 : Int32} {x6 : Int32}
    (h_x0 : At9 sh R x0)
    (t : (x1 ≤ x6 → ((x3 = 0 → (∃ (v5 : Int32), rMet γ l m_X9_isOpen [.ref x0, .int x1, .int x2, .int x5, .int (0 : Int32)] (sh, I, J, R) (sh, I, J, R) (some (.int v5)) ∧ ((v5 = 0 → (rW γ l m_X9_peepOf 0 0 130 [some (.ref x0), some (.int x1), some (.int x2), some (.int x3), some (.int x4), some (.int x5), none, none] [] (sh, I, J, R) Q)) ∧ (¬ v5 = 0 → (rW γ l m_X9_peepOf 0 0 154 [some (.ref x0), some (.int x1), some (.int x2), some (.int x3), some (.int x4), none, none, none] [] (sh, I, J, R) Q))))) ∧ (¬ x3 = 0 → (rW γ l m_X9_peepOf 0 0 130 [some (.ref x0), some (.int x1), some (.int x2), some (.int x3), some (.int x4), some (.int x5), none, none] [] (sh, I, J, R) Q)))) ∧ (¬ x1 ≤ x6 → (vp_in x6 16 ∧ (((((I (x0 + 37) x6.toNatClampNeg) >>> (x2 &&& 31)) &&& (1 : Int32)) = (1 : Int32) → (vp_in x6 16 ∧ (((((I (x0 + 37) x6.toNatClampNeg) >>> (x5 &&& 31)) &&& (1 : Int32)) = (1 : Int32) → (Q (sh, I, J, R) (some (.int (-1 : Int32))))) ∧ (¬ (((I (x0 + 37) x6.toNatClampNeg) >>> (x5 &&& 31)) &&& (1 : Int32)) = (1 : Int32) → (rW γ l m_X9_peepOf 0 0 69 [some (.ref x0), some (.int x1), some (.int x2), some (.int x3), some (.int x4), some (.int x5), some (.int (x6 + (1 : Int32))), none] [] (sh, I, J, R) Q))))) ∧ (¬ (((I (x0 + 37) x6.toNatClampNeg) >>> (x2 &&& 31)) &&& (1 : Int32)) = (1 : Int32) → (rW γ l m_X9_peepOf 0 0 69 [some (.ref x0), some (.int x1), some (.int x2), some (.int x3), some (.int x4), some (.int x5), some (.int (x6 + (1 : Int32))), none] [] (sh, I, J, R) Q)))))) :
    rW γ l m_X9_peepOf 0 0 69 [some (.ref x0), some (.int x1), some (.int x2), some (.int x3), some (.int x4), some (.int x5), some (.int x6), none] [] (sh, I, J, R) Q := by
  by_cases p0 : x1 ≤ x6
  · have t := t.1 p0
    by_cases p1 : x3 = 0
    · have t := t.1 p1
      obtain ⟨v5, m4, t⟩ := t
      by_cases p2 : v5 = 0
      · have t := t.1 p2
        obtain ⟨hf, r, t, q⟩ := t
        exact ⟨hf, r, b_X9_peepOf_69  h_x0 (fun _ y1 => absurd p1 y1) (fun _ _ => m4) (fun _ _ y2 => absurd p2 y2) (fun _ _ _ => t) (fun y0 => absurd p0 y0) (fun y0 _ => absurd p0 y0) (fun y0 _ => absurd p0 y0) (fun y0 _ _ => absurd p0 y0) (fun y0 _ _ => absurd p0 y0), q⟩
      · have t := t.2 p2
        obtain ⟨hf, r, t, q⟩ := t
        exact ⟨hf, r, b_X9_peepOf_69  h_x0 (fun _ y1 => absurd p1 y1) (fun _ _ => m4) (fun _ _ _ => t) (fun _ _ y2 => absurd y2 p2) (fun y0 => absurd p0 y0) (fun y0 _ => absurd p0 y0) (fun y0 _ => absurd p0 y0) (fun y0 _ _ => absurd p0 y0) (fun y0 _ _ => absurd p0 y0), q⟩
    · have t := t.2 p1
      obtain ⟨hf, r, t, q⟩ := t
      exact ⟨hf, r, b_X9_peepOf_69 (v5 := 0) h_x0 (fun _ _ => t) (fun _ y1 => absurd y1 p1) (fun _ y1 _ => absurd y1 p1) (fun _ y1 _ => absurd y1 p1) (fun y0 => absurd p0 y0) (fun y0 _ => absurd p0 y0) (fun y0 _ => absurd p0 y0) (fun y0 _ _ => absurd p0 y0) (fun y0 _ _ => absurd p0 y0), q⟩
  · have t := t.2 p0
    obtain ⟨b9, t⟩ := t
    by_cases p1 : (((I (x0 + 37) x6.toNatClampNeg) >>> (x2 &&& 31)) &&& (1 : Int32)) = (1 : Int32)
    · have t := t.1 p1
      obtain ⟨b12, t⟩ := t
      by_cases p2 : (((I (x0 + 37) x6.toNatClampNeg) >>> (x5 &&& 31)) &&& (1 : Int32)) = (1 : Int32)
      · have t := t.1 p2
        exact ⟨_, _, b_X9_peepOf_69 (v5 := 0) h_x0 (fun y0 _ => absurd y0 p0) (fun y0 _ => absurd y0 p0) (fun y0 _ _ => absurd y0 p0) (fun y0 _ _ => absurd y0 p0) (fun _ => b9) (fun _ y1 => absurd p1 y1) (fun _ _ => b12) (fun _ _ y2 => absurd p2 y2) (fun _ _ _ => ⟨rfl, rfl⟩), t⟩
      · have t := t.2 p2
        obtain ⟨hf, r, t, q⟩ := t
        exact ⟨hf, r, b_X9_peepOf_69 (v5 := 0) h_x0 (fun y0 _ => absurd y0 p0) (fun y0 _ => absurd y0 p0) (fun y0 _ _ => absurd y0 p0) (fun y0 _ _ => absurd y0 p0) (fun _ => b9) (fun _ y1 => absurd p1 y1) (fun _ _ => b12) (fun _ _ _ => t) (fun _ _ y2 => absurd y2 p2), q⟩
    · have t := t.2 p1
      obtain ⟨hf, r, t, q⟩ := t
      exact ⟨hf, r, b_X9_peepOf_69 (v5 := 0) h_x0 (fun y0 _ => absurd y0 p0) (fun y0 _ => absurd y0 p0) (fun y0 _ _ => absurd y0 p0) (fun y0 _ _ => absurd y0 p0) (fun _ => b9) (fun _ _ => t) (fun _ y1 => absurd y1 p1) (fun _ y1 _ => absurd y1 p1) (fun _ y1 _ => absurd y1 p1), q⟩
abbrev s_X9_peepOf_130 (γ : rG) (l : Launch) (x0 : Nat) (x1 : Int32) (x2 : Int32) (x3 : Int32) (x4 : Int32) (x5 : Int32) (h : rHeap) (Q : rHeap → Option Value → Prop) : Prop := rW γ l m_X9_peepOf 0 0 130 [some (.ref x0), some (.int x1), some (.int x2), some (.int x3), some (.int x4), some (.int x5), none, none] [] h Q
theorem w_X9_peepOf_130 {γ : rG} {l : Launch} {Q : rHeap → Option Value → Prop} {sh : Nat × (Nat → Nat) × (Nat → Nat)} {I : Nat → Nat → Int32} {J : Nat → Nat → Int64} {R : Nat → Nat → Option Nat} {x0 : Nat} {x1 : Int32} {x2 : Int32} {x3 : Int32} {x4 : Int32} {x5 : Int32}
    (h_x0 : At9 sh R x0)
    (t : vp_in x1 22 ∧ ((x3 = ((I (x0 + 25) x1.toNatClampNeg) - (1 : Int32)) → (∃ (v5 : Int32), rMet γ l m_X9_isOpen [.ref x0, .int x1, .int x2, .int x5, .int (1 : Int32)] (sh, I, J, R) (sh, I, J, R) (some (.int v5)) ∧ ((v5 = 0 → (rW γ l m_X9_peepOf 0 0 158 [some (.ref x0), some (.int x1), some (.int x2), some (.int x3), some (.int x4), none, none, none] [] (sh, I, J, R) Q)) ∧ (¬ v5 = 0 → (rW γ l m_X9_peepOf 0 0 154 [some (.ref x0), some (.int x1), some (.int x2), some (.int x3), some (.int x4), none, none, none] [] (sh, I, J, R) Q))))) ∧ (¬ x3 = ((I (x0 + 25) x1.toNatClampNeg) - (1 : Int32)) → (rW γ l m_X9_peepOf 0 0 158 [some (.ref x0), some (.int x1), some (.int x2), some (.int x3), some (.int x4), none, none, none] [] (sh, I, J, R) Q)))) :
    rW γ l m_X9_peepOf 0 0 130 [some (.ref x0), some (.int x1), some (.int x2), some (.int x3), some (.int x4), some (.int x5), none, none] [] (sh, I, J, R) Q := by
  obtain ⟨b1, t⟩ := t
  by_cases p0 : x3 = ((I (x0 + 25) x1.toNatClampNeg) - (1 : Int32))
  · have t := t.1 p0
    obtain ⟨v5, m4, t⟩ := t
    by_cases p1 : v5 = 0
    · have t := t.1 p1
      obtain ⟨hf, r, t, q⟩ := t
      exact ⟨hf, r, b_X9_peepOf_130  h_x0 b1 (fun y0 => absurd p0 y0) (fun _ => m4) (fun _ _ => t) (fun _ y1 => absurd p1 y1), q⟩
    · have t := t.2 p1
      obtain ⟨hf, r, t, q⟩ := t
      exact ⟨hf, r, b_X9_peepOf_130  h_x0 b1 (fun y0 => absurd p0 y0) (fun _ => m4) (fun _ y1 => absurd y1 p1) (fun _ _ => t), q⟩
  · have t := t.2 p0
    obtain ⟨hf, r, t, q⟩ := t
    exact ⟨hf, r, b_X9_peepOf_130 (v5 := 0) h_x0 b1 (fun _ => t) (fun y0 => absurd y0 p0) (fun y0 _ => absurd y0 p0) (fun y0 _ => absurd y0 p0), q⟩
abbrev s_X9_peepOf_154 (γ : rG) (l : Launch) (x0 : Nat) (x1 : Int32) (x2 : Int32) (x3 : Int32) (x4 : Int32) (h : rHeap) (Q : rHeap → Option Value → Prop) : Prop := rW γ l m_X9_peepOf 0 0 154 [some (.ref x0), some (.int x1), some (.int x2), some (.int x3), some (.int x4), none, none, none] [] h Q
theorem w_X9_peepOf_154 {γ : rG} {l : Launch} {Q : rHeap → Option Value → Prop} {sh : Nat × (Nat → Nat) × (Nat → Nat)} {I : Nat → Nat → Int32} {J : Nat → Nat → Int64} {R : Nat → Nat → Option Nat} {x0 : Nat} {x1 : Int32} {x2 : Int32} {x3 : Int32} {x4 : Int32}
    (h_x0 : At9 sh R x0)
    (t : rW γ l m_X9_peepOf 0 0 159 [some (.ref x0), some (.int x1), some (.int x2), some (.int x3), some (.int x4), none, none, none] [.int (1 : Int32)] (sh, I, J, R) Q) :
    rW γ l m_X9_peepOf 0 0 154 [some (.ref x0), some (.int x1), some (.int x2), some (.int x3), some (.int x4), none, none, none] [] (sh, I, J, R) Q := by
  obtain ⟨hf, r, t, q⟩ := t
  exact ⟨hf, r, b_X9_peepOf_154  h_x0 t, q⟩
abbrev s_X9_peepOf_158 (γ : rG) (l : Launch) (x0 : Nat) (x1 : Int32) (x2 : Int32) (x3 : Int32) (x4 : Int32) (h : rHeap) (Q : rHeap → Option Value → Prop) : Prop := rW γ l m_X9_peepOf 0 0 158 [some (.ref x0), some (.int x1), some (.int x2), some (.int x3), some (.int x4), none, none, none] [] h Q
theorem w_X9_peepOf_158 {γ : rG} {l : Launch} {Q : rHeap → Option Value → Prop} {sh : Nat × (Nat → Nat) × (Nat → Nat)} {I : Nat → Nat → Int32} {J : Nat → Nat → Int64} {R : Nat → Nat → Option Nat} {x0 : Nat} {x1 : Int32} {x2 : Int32} {x3 : Int32} {x4 : Int32}
    (h_x0 : At9 sh R x0)
    (t : rW γ l m_X9_peepOf 0 0 159 [some (.ref x0), some (.int x1), some (.int x2), some (.int x3), some (.int x4), none, none, none] [.int (0 : Int32)] (sh, I, J, R) Q) :
    rW γ l m_X9_peepOf 0 0 158 [some (.ref x0), some (.int x1), some (.int x2), some (.int x3), some (.int x4), none, none, none] [] (sh, I, J, R) Q := by
  obtain ⟨hf, r, t, q⟩ := t
  exact ⟨hf, r, b_X9_peepOf_158  h_x0 t, q⟩
abbrev s_X9_peepOf_159 (γ : rG) (l : Launch) (x0 : Nat) (x1 : Int32) (x2 : Int32) (x3 : Int32) (x4 : Int32) (s0 : Int32) (h : rHeap) (Q : rHeap → Option Value → Prop) : Prop := rW γ l m_X9_peepOf 0 0 159 [some (.ref x0), some (.int x1), some (.int x2), some (.int x3), some (.int x4), none, none, none] [.int s0] h Q
theorem w_X9_peepOf_159 {γ : rG} {l : Launch} {Q : rHeap → Option Value → Prop} {sh : Nat × (Nat → Nat) × (Nat → Nat)} {I : Nat → Nat → Int32} {J : Nat → Nat → Int64} {R : Nat → Nat → Option Nat} {x0 : Nat} {x1 : Int32} {x2 : Int32} {x3 : Int32} {x4 : Int32} {s0 : Int32}
    (h_x0 : At9 sh R x0)
    (t : (s0 = 0 → (Q (sh, I, J, R) (some (.int (-1 : Int32))))) ∧ (¬ s0 = 0 → (∃ (v3 : Int32), rMet γ l m_X9_layersOf [.ref x0, .int x1, .int x3] (sh, I, J, R) (sh, I, J, R) (some (.int v3)) ∧ (∃ (I4 : Nat → Nat → Int32), rMet γ l m_X9_asks [.ref x0, .int (6 : Int32), .int v3, .int x3, .int x2, .int x4] (sh, I, J, R) (sh, I4, J, R) none ∧ (∃ (I6 : Nat → Nat → Int32) (v8 : Int32), rMet γ l m_X9_ruleOf [.ref x0, .int (3 : Int32)] (sh, I4, J, R) (sh, I6, J, R) (some (.int v8)) ∧ ((v8 = (-1 : Int32) → (Q (sh, I6, J, R) (some (.int (-1 : Int32))))) ∧ (¬ v8 = (-1 : Int32) → (∃ (I10 : Nat → Nat → Int32) (v12 : Int32), rMet γ l m_X9_says [.ref x0, .int v8] (sh, I6, J, R) (sh, I10, J, R) (some (.int v12)) ∧ (Q (sh, I10, J, R) (some (.int v12))))))))))) :
    rW γ l m_X9_peepOf 0 0 159 [some (.ref x0), some (.int x1), some (.int x2), some (.int x3), some (.int x4), none, none, none] [.int s0] (sh, I, J, R) Q := by
  by_cases p0 : s0 = 0
  · have t := t.1 p0
    exact ⟨_, _, b_X9_peepOf_159 (v3 := 0) (I4 := I) (I6 := I) (v8 := 0) (I10 := I) (v12 := 0) h_x0 (fun y0 => absurd p0 y0) (fun y0 => absurd p0 y0) (fun y0 => absurd p0 y0) (fun y0 _ => absurd p0 y0) (fun y0 _ => absurd p0 y0) (fun y0 _ => absurd p0 y0) (fun _ => ⟨rfl, rfl⟩), t⟩
  · have t := t.2 p0
    obtain ⟨v3, m2, t⟩ := t
    obtain ⟨I4, m5, t⟩ := t
    obtain ⟨I6, v8, m7, t⟩ := t
    by_cases p1 : v8 = (-1 : Int32)
    · have t := t.1 p1
      exact ⟨_, _, b_X9_peepOf_159 (I10 := I) (v12 := 0) h_x0 (fun _ => m2) (fun _ => m5) (fun _ => m7) (fun _ y1 => absurd p1 y1) (fun _ y1 => absurd p1 y1) (fun _ _ => ⟨rfl, rfl⟩) (fun y0 => absurd y0 p0), t⟩
    · have t := t.2 p1
      obtain ⟨I10, v12, m11, t⟩ := t
      exact ⟨_, _, b_X9_peepOf_159  h_x0 (fun _ => m2) (fun _ => m5) (fun _ => m7) (fun _ _ => m11) (fun _ _ => ⟨rfl, rfl⟩) (fun _ y1 => absurd y1 p1) (fun y0 => absurd y0 p0), t⟩
abbrev s_X9_isPart_0 (γ : rG) (l : Launch) (x0 : Nat) (x1 : Int32) (h : rHeap) (Q : rHeap → Option Value → Prop) : Prop := rW γ l m_X9_isPart 0 0 0 [some (.ref x0), some (.int x1)] [] h Q
theorem w_X9_isPart_0 {γ : rG} {l : Launch} {Q : rHeap → Option Value → Prop} {sh : Nat × (Nat → Nat) × (Nat → Nat)} {I : Nat → Nat → Int32} {J : Nat → Nat → Int64} {R : Nat → Nat → Option Nat} {x0 : Nat} {x1 : Int32}
    (h_x0 : At9 sh R x0)
    (t : (x1 < 0 → (Q (sh, I, J, R) (some (.int (0 : Int32))))) ∧ (¬ x1 < 0 → (((I x0 39) ≤ x1 → (Q (sh, I, J, R) (some (.int (0 : Int32))))) ∧ (¬ (I x0 39) ≤ x1 → (Q (sh, I, J, R) (some (.int (1 : Int32)))))))) :
    rW γ l m_X9_isPart 0 0 0 [some (.ref x0), some (.int x1)] [] (sh, I, J, R) Q := by
  by_cases p0 : x1 < 0
  · have t := t.1 p0
    exact ⟨_, _, b_X9_isPart_0  h_x0 (fun _ => ⟨rfl, rfl⟩) (fun y0 _ => absurd p0 y0) (fun y0 _ => absurd p0 y0), t⟩
  · have t := t.2 p0
    by_cases p1 : (I x0 39) ≤ x1
    · have t := t.1 p1
      exact ⟨_, _, b_X9_isPart_0  h_x0 (fun y0 => absurd y0 p0) (fun _ _ => ⟨rfl, rfl⟩) (fun _ y1 => absurd p1 y1), t⟩
    · have t := t.2 p1
      exact ⟨_, _, b_X9_isPart_0  h_x0 (fun y0 => absurd y0 p0) (fun _ y1 => absurd y1 p1) (fun _ _ => ⟨rfl, rfl⟩), t⟩
abbrev s_X9_part_0 (γ : rG) (l : Launch) (x0 : Nat) (x1 : Int32) (x2 : Int32) (h : rHeap) (Q : rHeap → Option Value → Prop) : Prop := rW γ l m_X9_part 0 0 0 [some (.ref x0), some (.int x1), some (.int x2), none] [] h Q
theorem w_X9_part_0 {γ : rG} {l : Launch} {Q : rHeap → Option Value → Prop} {sh : Nat × (Nat → Nat) × (Nat → Nat)} {I : Nat → Nat → Int32} {J : Nat → Nat → Int64} {R : Nat → Nat → Option Nat} {x0 : Nat} {x1 : Int32} {x2 : Int32}
    (h_x0 : At9 sh R x0)
    (t : ∃ (v2 : Int32), rMet γ l m_X9_isPart [.ref x0, .int x1] (sh, I, J, R) (sh, I, J, R) (some (.int v2)) ∧ ((v2 = 0 → (Q (sh, I, J, R) (some (.int (-1 : Int32))))) ∧ (¬ v2 = 0 → ((x2 = (0 : Int32) → (vp_in ((((8 : Int32) * (I x0 48)) + x1)) 176 ∧ (Q (sh, I, J, R) (some (.int ((I (x0 + 26) ((((8 : Int32) * (I x0 48)) + x1)).toNatClampNeg))))))) ∧ (¬ x2 = (0 : Int32) → ((x2 = (1 : Int32) → (vp_in ((((8 : Int32) * (I x0 48)) + x1)) 176 ∧ (Q (sh, I, J, R) (some (.int ((I (x0 + 27) ((((8 : Int32) * (I x0 48)) + x1)).toNatClampNeg))))))) ∧ (¬ x2 = (1 : Int32) → ((x2 = (2 : Int32) → (vp_in ((((8 : Int32) * (I x0 48)) + x1)) 176 ∧ (((I (x0 + 28) ((((8 : Int32) * (I x0 48)) + x1)).toNatClampNeg) = 0 → (Q (sh, I, J, R) (some (.int (0 : Int32))))) ∧ (¬ (I (x0 + 28) ((((8 : Int32) * (I x0 48)) + x1)).toNatClampNeg) = 0 → (Q (sh, I, J, R) (some (.int (1 : Int32)))))))) ∧ (¬ x2 = (2 : Int32) → ((x2 = (3 : Int32) → (vp_in x1 8 ∧ (Q (sh, I, J, R) (some (.int ((I (x0 + 30) x1.toNatClampNeg))))))) ∧ (¬ x2 = (3 : Int32) → ((x2 = (4 : Int32) → (vp_in x1 8 ∧ (Q (sh, I, J, R) (some (.int ((I (x0 + 31) x1.toNatClampNeg))))))) ∧ (¬ x2 = (4 : Int32) → ((x2 = (5 : Int32) → (∃ (v23 : Int32), rMet γ l m_X9_isRead [.ref x0, .int (I x0 48), .int x1] (sh, I, J, R) (sh, I, J, R) (some (.int v23)) ∧ ((v23 = 0 → (∃ (I25 : Nat → Nat → Int32) (v27 : Int32), rMet γ l m_X9_peepOf [.ref x0, .int (I x0 48), .int x1] (sh, I, J, R) (sh, I25, J, R) (some (.int v27)) ∧ ((v27 = (-1 : Int32) → (Q (sh, I25, J, R) (some (.int (0 : Int32))))) ∧ (¬ v27 = (-1 : Int32) → (Q (sh, I25, J, R) (some (.int (2 : Int32)))))))) ∧ (¬ v23 = 0 → (Q (sh, I, J, R) (some (.int (1 : Int32)))))))) ∧ (¬ x2 = (5 : Int32) → ((x2 = (6 : Int32) → (vp_in (((2 : Int32) * x1)) 16 ∧ (((I (x0 + 32) (((2 : Int32) * x1)).toNatClampNeg) = 0 → (Q (sh, I, J, R) (some (.int (0 : Int32))))) ∧ (¬ (I (x0 + 32) (((2 : Int32) * x1)).toNatClampNeg) = 0 → (Q (sh, I, J, R) (some (.int (1 : Int32)))))))) ∧ (¬ x2 = (6 : Int32) → ((x2 = (7 : Int32) → (vp_in ((((2 : Int32) * x1) + (1 : Int32))) 16 ∧ (((I (x0 + 32) ((((2 : Int32) * x1) + (1 : Int32))).toNatClampNeg) = 0 → (Q (sh, I, J, R) (some (.int (0 : Int32))))) ∧ (¬ (I (x0 + 32) ((((2 : Int32) * x1) + (1 : Int32))).toNatClampNeg) = 0 → (Q (sh, I, J, R) (some (.int (1 : Int32)))))))) ∧ (¬ x2 = (7 : Int32) → (Q (sh, I, J, R) (some (.int (-1 : Int32))))))))))))))))))))))) :
    rW γ l m_X9_part 0 0 0 [some (.ref x0), some (.int x1), some (.int x2), none] [] (sh, I, J, R) Q := by
  obtain ⟨v2, m1, t⟩ := t
  by_cases p0 : v2 = 0
  · have t := t.1 p0
    exact ⟨_, _, b_X9_part_0 (v23 := 0) (I25 := I) (v27 := 0) h_x0 m1 (fun y0 _ => absurd p0 y0) (fun y0 _ => absurd p0 y0) (fun y0 _ _ => absurd p0 y0) (fun y0 _ _ => absurd p0 y0) (fun y0 _ _ _ => absurd p0 y0) (fun y0 _ _ _ _ => absurd p0 y0) (fun y0 _ _ _ _ => absurd p0 y0) (fun y0 _ _ _ _ => absurd p0 y0) (fun y0 _ _ _ _ => absurd p0 y0) (fun y0 _ _ _ _ _ => absurd p0 y0) (fun y0 _ _ _ _ _ => absurd p0 y0) (fun y0 _ _ _ _ _ _ => absurd p0 y0) (fun y0 _ _ _ _ _ _ _ => absurd p0 y0) (fun y0 _ _ _ _ _ _ _ _ => absurd p0 y0) (fun y0 _ _ _ _ _ _ _ _ => absurd p0 y0) (fun y0 _ _ _ _ _ _ _ => absurd p0 y0) (fun y0 _ _ _ _ _ _ _ => absurd p0 y0) (fun y0 _ _ _ _ _ _ _ _ => absurd p0 y0) (fun y0 _ _ _ _ _ _ _ _ => absurd p0 y0) (fun y0 _ _ _ _ _ _ _ _ => absurd p0 y0) (fun y0 _ _ _ _ _ _ _ _ _ => absurd p0 y0) (fun y0 _ _ _ _ _ _ _ _ _ => absurd p0 y0) (fun y0 _ _ _ _ _ _ _ _ => absurd p0 y0) (fun _ => ⟨rfl, rfl⟩), t⟩
  · have t := t.2 p0
    by_cases p1 : x2 = (0 : Int32)
    · have t := t.1 p1
      obtain ⟨b5, t⟩ := t
      exact ⟨_, _, b_X9_part_0 (v23 := 0) (I25 := I) (v27 := 0) h_x0 m1 (fun _ _ => b5) (fun _ _ => ⟨rfl, rfl⟩) (fun _ y1 _ => absurd p1 y1) (fun _ y1 _ => absurd p1 y1) (fun _ y1 _ _ => absurd p1 y1) (fun _ y1 _ _ _ => absurd p1 y1) (fun _ y1 _ _ _ => absurd p1 y1) (fun _ y1 _ _ _ => absurd p1 y1) (fun _ y1 _ _ _ => absurd p1 y1) (fun _ y1 _ _ _ _ => absurd p1 y1) (fun _ y1 _ _ _ _ => absurd p1 y1) (fun _ y1 _ _ _ _ _ => absurd p1 y1) (fun _ y1 _ _ _ _ _ _ => absurd p1 y1) (fun _ y1 _ _ _ _ _ _ _ => absurd p1 y1) (fun _ y1 _ _ _ _ _ _ _ => absurd p1 y1) (fun _ y1 _ _ _ _ _ _ => absurd p1 y1) (fun _ y1 _ _ _ _ _ _ => absurd p1 y1) (fun _ y1 _ _ _ _ _ _ _ => absurd p1 y1) (fun _ y1 _ _ _ _ _ _ _ => absurd p1 y1) (fun _ y1 _ _ _ _ _ _ _ => absurd p1 y1) (fun _ y1 _ _ _ _ _ _ _ _ => absurd p1 y1) (fun _ y1 _ _ _ _ _ _ _ _ => absurd p1 y1) (fun _ y1 _ _ _ _ _ _ _ => absurd p1 y1) (fun y0 => absurd y0 p0), t⟩
    · have t := t.2 p1
      by_cases p2 : x2 = (1 : Int32)
      · have t := t.1 p2
        obtain ⟨b8, t⟩ := t
        exact ⟨_, _, b_X9_part_0 (v23 := 0) (I25 := I) (v27 := 0) h_x0 m1 (fun _ y1 => absurd y1 p1) (fun _ y1 => absurd y1 p1) (fun _ _ _ => b8) (fun _ _ _ => ⟨rfl, rfl⟩) (fun _ _ y2 _ => absurd p2 y2) (fun _ _ y2 _ _ => absurd p2 y2) (fun _ _ y2 _ _ => absurd p2 y2) (fun _ _ y2 _ _ => absurd p2 y2) (fun _ _ y2 _ _ => absurd p2 y2) (fun _ _ y2 _ _ _ => absurd p2 y2) (fun _ _ y2 _ _ _ => absurd p2 y2) (fun _ _ y2 _ _ _ _ => absurd p2 y2) (fun _ _ y2 _ _ _ _ _ => absurd p2 y2) (fun _ _ y2 _ _ _ _ _ _ => absurd p2 y2) (fun _ _ y2 _ _ _ _ _ _ => absurd p2 y2) (fun _ _ y2 _ _ _ _ _ => absurd p2 y2) (fun _ _ y2 _ _ _ _ _ => absurd p2 y2) (fun _ _ y2 _ _ _ _ _ _ => absurd p2 y2) (fun _ _ y2 _ _ _ _ _ _ => absurd p2 y2) (fun _ _ y2 _ _ _ _ _ _ => absurd p2 y2) (fun _ _ y2 _ _ _ _ _ _ _ => absurd p2 y2) (fun _ _ y2 _ _ _ _ _ _ _ => absurd p2 y2) (fun _ _ y2 _ _ _ _ _ _ => absurd p2 y2) (fun y0 => absurd y0 p0), t⟩
      · have t := t.2 p2
        by_cases p3 : x2 = (2 : Int32)
        · have t := t.1 p3
          obtain ⟨b11, t⟩ := t
          by_cases p4 : (I (x0 + 28) ((((8 : Int32) * (I x0 48)) + x1)).toNatClampNeg) = 0
          · have t := t.1 p4
            exact ⟨_, _, b_X9_part_0 (v23 := 0) (I25 := I) (v27 := 0) h_x0 m1 (fun _ y1 => absurd y1 p1) (fun _ y1 => absurd y1 p1) (fun _ _ y2 => absurd y2 p2) (fun _ _ y2 => absurd y2 p2) (fun _ _ _ _ => b11) (fun _ _ _ _ _ => ⟨rfl, rfl⟩) (fun _ _ _ _ y4 => absurd p4 y4) (fun _ _ _ y3 _ => absurd p3 y3) (fun _ _ _ y3 _ => absurd p3 y3) (fun _ _ _ y3 _ _ => absurd p3 y3) (fun _ _ _ y3 _ _ => absurd p3 y3) (fun _ _ _ y3 _ _ _ => absurd p3 y3) (fun _ _ _ y3 _ _ _ _ => absurd p3 y3) (fun _ _ _ y3 _ _ _ _ _ => absurd p3 y3) (fun _ _ _ y3 _ _ _ _ _ => absurd p3 y3) (fun _ _ _ y3 _ _ _ _ => absurd p3 y3) (fun _ _ _ y3 _ _ _ _ => absurd p3 y3) (fun _ _ _ y3 _ _ _ _ _ => absurd p3 y3) (fun _ _ _ y3 _ _ _ _ _ => absurd p3 y3) (fun _ _ _ y3 _ _ _ _ _ => absurd p3 y3) (fun _ _ _ y3 _ _ _ _ _ _ => absurd p3 y3) (fun _ _ _ y3 _ _ _ _ _ _ => absurd p3 y3) (fun _ _ _ y3 _ _ _ _ _ => absurd p3 y3) (fun y0 => absurd y0 p0), t⟩
          · have t := t.2 p4
            exact ⟨_, _, b_X9_part_0 (v23 := 0) (I25 := I) (v27 := 0) h_x0 m1 (fun _ y1 => absurd y1 p1) (fun _ y1 => absurd y1 p1) (fun _ _ y2 => absurd y2 p2) (fun _ _ y2 => absurd y2 p2) (fun _ _ _ _ => b11) (fun _ _ _ _ y4 => absurd y4 p4) (fun _ _ _ _ _ => ⟨rfl, rfl⟩) (fun _ _ _ y3 _ => absurd p3 y3) (fun _ _ _ y3 _ => absurd p3 y3) (fun _ _ _ y3 _ _ => absurd p3 y3) (fun _ _ _ y3 _ _ => absurd p3 y3) (fun _ _ _ y3 _ _ _ => absurd p3 y3) (fun _ _ _ y3 _ _ _ _ => absurd p3 y3) (fun _ _ _ y3 _ _ _ _ _ => absurd p3 y3) (fun _ _ _ y3 _ _ _ _ _ => absurd p3 y3) (fun _ _ _ y3 _ _ _ _ => absurd p3 y3) (fun _ _ _ y3 _ _ _ _ => absurd p3 y3) (fun _ _ _ y3 _ _ _ _ _ => absurd p3 y3) (fun _ _ _ y3 _ _ _ _ _ => absurd p3 y3) (fun _ _ _ y3 _ _ _ _ _ => absurd p3 y3) (fun _ _ _ y3 _ _ _ _ _ _ => absurd p3 y3) (fun _ _ _ y3 _ _ _ _ _ _ => absurd p3 y3) (fun _ _ _ y3 _ _ _ _ _ => absurd p3 y3) (fun y0 => absurd y0 p0), t⟩
        · have t := t.2 p3
          by_cases p4 : x2 = (3 : Int32)
          · have t := t.1 p4
            obtain ⟨b16, t⟩ := t
            exact ⟨_, _, b_X9_part_0 (v23 := 0) (I25 := I) (v27 := 0) h_x0 m1 (fun _ y1 => absurd y1 p1) (fun _ y1 => absurd y1 p1) (fun _ _ y2 => absurd y2 p2) (fun _ _ y2 => absurd y2 p2) (fun _ _ _ y3 => absurd y3 p3) (fun _ _ _ y3 _ => absurd y3 p3) (fun _ _ _ y3 _ => absurd y3 p3) (fun _ _ _ _ _ => b16) (fun _ _ _ _ _ => ⟨rfl, rfl⟩) (fun _ _ _ _ y4 _ => absurd p4 y4) (fun _ _ _ _ y4 _ => absurd p4 y4) (fun _ _ _ _ y4 _ _ => absurd p4 y4) (fun _ _ _ _ y4 _ _ _ => absurd p4 y4) (fun _ _ _ _ y4 _ _ _ _ => absurd p4 y4) (fun _ _ _ _ y4 _ _ _ _ => absurd p4 y4) (fun _ _ _ _ y4 _ _ _ => absurd p4 y4) (fun _ _ _ _ y4 _ _ _ => absurd p4 y4) (fun _ _ _ _ y4 _ _ _ _ => absurd p4 y4) (fun _ _ _ _ y4 _ _ _ _ => absurd p4 y4) (fun _ _ _ _ y4 _ _ _ _ => absurd p4 y4) (fun _ _ _ _ y4 _ _ _ _ _ => absurd p4 y4) (fun _ _ _ _ y4 _ _ _ _ _ => absurd p4 y4) (fun _ _ _ _ y4 _ _ _ _ => absurd p4 y4) (fun y0 => absurd y0 p0), t⟩
          · have t := t.2 p4
            by_cases p5 : x2 = (4 : Int32)
            · have t := t.1 p5
              obtain ⟨b19, t⟩ := t
              exact ⟨_, _, b_X9_part_0 (v23 := 0) (I25 := I) (v27 := 0) h_x0 m1 (fun _ y1 => absurd y1 p1) (fun _ y1 => absurd y1 p1) (fun _ _ y2 => absurd y2 p2) (fun _ _ y2 => absurd y2 p2) (fun _ _ _ y3 => absurd y3 p3) (fun _ _ _ y3 _ => absurd y3 p3) (fun _ _ _ y3 _ => absurd y3 p3) (fun _ _ _ _ y4 => absurd y4 p4) (fun _ _ _ _ y4 => absurd y4 p4) (fun _ _ _ _ _ _ => b19) (fun _ _ _ _ _ _ => ⟨rfl, rfl⟩) (fun _ _ _ _ _ y5 _ => absurd p5 y5) (fun _ _ _ _ _ y5 _ _ => absurd p5 y5) (fun _ _ _ _ _ y5 _ _ _ => absurd p5 y5) (fun _ _ _ _ _ y5 _ _ _ => absurd p5 y5) (fun _ _ _ _ _ y5 _ _ => absurd p5 y5) (fun _ _ _ _ _ y5 _ _ => absurd p5 y5) (fun _ _ _ _ _ y5 _ _ _ => absurd p5 y5) (fun _ _ _ _ _ y5 _ _ _ => absurd p5 y5) (fun _ _ _ _ _ y5 _ _ _ => absurd p5 y5) (fun _ _ _ _ _ y5 _ _ _ _ => absurd p5 y5) (fun _ _ _ _ _ y5 _ _ _ _ => absurd p5 y5) (fun _ _ _ _ _ y5 _ _ _ => absurd p5 y5) (fun y0 => absurd y0 p0), t⟩
            · have t := t.2 p5
              by_cases p6 : x2 = (5 : Int32)
              · have t := t.1 p6
                obtain ⟨v23, m22, t⟩ := t
                by_cases p7 : v23 = 0
                · have t := t.1 p7
                  obtain ⟨I25, v27, m26, t⟩ := t
                  by_cases p8 : v27 = (-1 : Int32)
                  · have t := t.1 p8
                    exact ⟨_, _, b_X9_part_0  h_x0 m1 (fun _ y1 => absurd y1 p1) (fun _ y1 => absurd y1 p1) (fun _ _ y2 => absurd y2 p2) (fun _ _ y2 => absurd y2 p2) (fun _ _ _ y3 => absurd y3 p3) (fun _ _ _ y3 _ => absurd y3 p3) (fun _ _ _ y3 _ => absurd y3 p3) (fun _ _ _ _ y4 => absurd y4 p4) (fun _ _ _ _ y4 => absurd y4 p4) (fun _ _ _ _ _ y5 => absurd y5 p5) (fun _ _ _ _ _ y5 => absurd y5 p5) (fun _ _ _ _ _ _ _ => m22) (fun _ _ _ _ _ _ _ _ => m26) (fun _ _ _ _ _ _ _ _ _ => ⟨rfl, rfl⟩) (fun _ _ _ _ _ _ _ _ y8 => absurd p8 y8) (fun _ _ _ _ _ _ _ y7 => absurd p7 y7) (fun _ _ _ _ _ _ y6 _ => absurd p6 y6) (fun _ _ _ _ _ _ y6 _ _ => absurd p6 y6) (fun _ _ _ _ _ _ y6 _ _ => absurd p6 y6) (fun _ _ _ _ _ _ y6 _ _ => absurd p6 y6) (fun _ _ _ _ _ _ y6 _ _ _ => absurd p6 y6) (fun _ _ _ _ _ _ y6 _ _ _ => absurd p6 y6) (fun _ _ _ _ _ _ y6 _ _ => absurd p6 y6) (fun y0 => absurd y0 p0), t⟩
                  · have t := t.2 p8
                    exact ⟨_, _, b_X9_part_0  h_x0 m1 (fun _ y1 => absurd y1 p1) (fun _ y1 => absurd y1 p1) (fun _ _ y2 => absurd y2 p2) (fun _ _ y2 => absurd y2 p2) (fun _ _ _ y3 => absurd y3 p3) (fun _ _ _ y3 _ => absurd y3 p3) (fun _ _ _ y3 _ => absurd y3 p3) (fun _ _ _ _ y4 => absurd y4 p4) (fun _ _ _ _ y4 => absurd y4 p4) (fun _ _ _ _ _ y5 => absurd y5 p5) (fun _ _ _ _ _ y5 => absurd y5 p5) (fun _ _ _ _ _ _ _ => m22) (fun _ _ _ _ _ _ _ _ => m26) (fun _ _ _ _ _ _ _ _ y8 => absurd y8 p8) (fun _ _ _ _ _ _ _ _ _ => ⟨rfl, rfl⟩) (fun _ _ _ _ _ _ _ y7 => absurd p7 y7) (fun _ _ _ _ _ _ y6 _ => absurd p6 y6) (fun _ _ _ _ _ _ y6 _ _ => absurd p6 y6) (fun _ _ _ _ _ _ y6 _ _ => absurd p6 y6) (fun _ _ _ _ _ _ y6 _ _ => absurd p6 y6) (fun _ _ _ _ _ _ y6 _ _ _ => absurd p6 y6) (fun _ _ _ _ _ _ y6 _ _ _ => absurd p6 y6) (fun _ _ _ _ _ _ y6 _ _ => absurd p6 y6) (fun y0 => absurd y0 p0), t⟩
                · have t := t.2 p7
                  exact ⟨_, _, b_X9_part_0 (I25 := I) (v27 := 0) h_x0 m1 (fun _ y1 => absurd y1 p1) (fun _ y1 => absurd y1 p1) (fun _ _ y2 => absurd y2 p2) (fun _ _ y2 => absurd y2 p2) (fun _ _ _ y3 => absurd y3 p3) (fun _ _ _ y3 _ => absurd y3 p3) (fun _ _ _ y3 _ => absurd y3 p3) (fun _ _ _ _ y4 => absurd y4 p4) (fun _ _ _ _ y4 => absurd y4 p4) (fun _ _ _ _ _ y5 => absurd y5 p5) (fun _ _ _ _ _ y5 => absurd y5 p5) (fun _ _ _ _ _ _ _ => m22) (fun _ _ _ _ _ _ _ y7 => absurd y7 p7) (fun _ _ _ _ _ _ _ y7 _ => absurd y7 p7) (fun _ _ _ _ _ _ _ y7 _ => absurd y7 p7) (fun _ _ _ _ _ _ _ _ => ⟨rfl, rfl⟩) (fun _ _ _ _ _ _ y6 _ => absurd p6 y6) (fun _ _ _ _ _ _ y6 _ _ => absurd p6 y6) (fun _ _ _ _ _ _ y6 _ _ => absurd p6 y6) (fun _ _ _ _ _ _ y6 _ _ => absurd p6 y6) (fun _ _ _ _ _ _ y6 _ _ _ => absurd p6 y6) (fun _ _ _ _ _ _ y6 _ _ _ => absurd p6 y6) (fun _ _ _ _ _ _ y6 _ _ => absurd p6 y6) (fun y0 => absurd y0 p0), t⟩
              · have t := t.2 p6
                by_cases p7 : x2 = (6 : Int32)
                · have t := t.1 p7
                  obtain ⟨b33, t⟩ := t
                  by_cases p8 : (I (x0 + 32) (((2 : Int32) * x1)).toNatClampNeg) = 0
                  · have t := t.1 p8
                    exact ⟨_, _, b_X9_part_0 (v23 := 0) (I25 := I) (v27 := 0) h_x0 m1 (fun _ y1 => absurd y1 p1) (fun _ y1 => absurd y1 p1) (fun _ _ y2 => absurd y2 p2) (fun _ _ y2 => absurd y2 p2) (fun _ _ _ y3 => absurd y3 p3) (fun _ _ _ y3 _ => absurd y3 p3) (fun _ _ _ y3 _ => absurd y3 p3) (fun _ _ _ _ y4 => absurd y4 p4) (fun _ _ _ _ y4 => absurd y4 p4) (fun _ _ _ _ _ y5 => absurd y5 p5) (fun _ _ _ _ _ y5 => absurd y5 p5) (fun _ _ _ _ _ _ y6 => absurd y6 p6) (fun _ _ _ _ _ _ y6 _ => absurd y6 p6) (fun _ _ _ _ _ _ y6 _ _ => absurd y6 p6) (fun _ _ _ _ _ _ y6 _ _ => absurd y6 p6) (fun _ _ _ _ _ _ y6 _ => absurd y6 p6) (fun _ _ _ _ _ _ _ _ => b33) (fun _ _ _ _ _ _ _ _ _ => ⟨rfl, rfl⟩) (fun _ _ _ _ _ _ _ _ y8 => absurd p8 y8) (fun _ _ _ _ _ _ _ y7 _ => absurd p7 y7) (fun _ _ _ _ _ _ _ y7 _ _ => absurd p7 y7) (fun _ _ _ _ _ _ _ y7 _ _ => absurd p7 y7) (fun _ _ _ _ _ _ _ y7 _ => absurd p7 y7) (fun y0 => absurd y0 p0), t⟩
                  · have t := t.2 p8
                    exact ⟨_, _, b_X9_part_0 (v23 := 0) (I25 := I) (v27 := 0) h_x0 m1 (fun _ y1 => absurd y1 p1) (fun _ y1 => absurd y1 p1) (fun _ _ y2 => absurd y2 p2) (fun _ _ y2 => absurd y2 p2) (fun _ _ _ y3 => absurd y3 p3) (fun _ _ _ y3 _ => absurd y3 p3) (fun _ _ _ y3 _ => absurd y3 p3) (fun _ _ _ _ y4 => absurd y4 p4) (fun _ _ _ _ y4 => absurd y4 p4) (fun _ _ _ _ _ y5 => absurd y5 p5) (fun _ _ _ _ _ y5 => absurd y5 p5) (fun _ _ _ _ _ _ y6 => absurd y6 p6) (fun _ _ _ _ _ _ y6 _ => absurd y6 p6) (fun _ _ _ _ _ _ y6 _ _ => absurd y6 p6) (fun _ _ _ _ _ _ y6 _ _ => absurd y6 p6) (fun _ _ _ _ _ _ y6 _ => absurd y6 p6) (fun _ _ _ _ _ _ _ _ => b33) (fun _ _ _ _ _ _ _ _ y8 => absurd y8 p8) (fun _ _ _ _ _ _ _ _ _ => ⟨rfl, rfl⟩) (fun _ _ _ _ _ _ _ y7 _ => absurd p7 y7) (fun _ _ _ _ _ _ _ y7 _ _ => absurd p7 y7) (fun _ _ _ _ _ _ _ y7 _ _ => absurd p7 y7) (fun _ _ _ _ _ _ _ y7 _ => absurd p7 y7) (fun y0 => absurd y0 p0), t⟩
                · have t := t.2 p7
                  by_cases p8 : x2 = (7 : Int32)
                  · have t := t.1 p8
                    obtain ⟨b38, t⟩ := t
                    by_cases p9 : (I (x0 + 32) ((((2 : Int32) * x1) + (1 : Int32))).toNatClampNeg) = 0
                    · have t := t.1 p9
                      exact ⟨_, _, b_X9_part_0 (v23 := 0) (I25 := I) (v27 := 0) h_x0 m1 (fun _ y1 => absurd y1 p1) (fun _ y1 => absurd y1 p1) (fun _ _ y2 => absurd y2 p2) (fun _ _ y2 => absurd y2 p2) (fun _ _ _ y3 => absurd y3 p3) (fun _ _ _ y3 _ => absurd y3 p3) (fun _ _ _ y3 _ => absurd y3 p3) (fun _ _ _ _ y4 => absurd y4 p4) (fun _ _ _ _ y4 => absurd y4 p4) (fun _ _ _ _ _ y5 => absurd y5 p5) (fun _ _ _ _ _ y5 => absurd y5 p5) (fun _ _ _ _ _ _ y6 => absurd y6 p6) (fun _ _ _ _ _ _ y6 _ => absurd y6 p6) (fun _ _ _ _ _ _ y6 _ _ => absurd y6 p6) (fun _ _ _ _ _ _ y6 _ _ => absurd y6 p6) (fun _ _ _ _ _ _ y6 _ => absurd y6 p6) (fun _ _ _ _ _ _ _ y7 => absurd y7 p7) (fun _ _ _ _ _ _ _ y7 _ => absurd y7 p7) (fun _ _ _ _ _ _ _ y7 _ => absurd y7 p7) (fun _ _ _ _ _ _ _ _ _ => b38) (fun _ _ _ _ _ _ _ _ _ _ => ⟨rfl, rfl⟩) (fun _ _ _ _ _ _ _ _ _ y9 => absurd p9 y9) (fun _ _ _ _ _ _ _ _ y8 => absurd p8 y8) (fun y0 => absurd y0 p0), t⟩
                    · have t := t.2 p9
                      exact ⟨_, _, b_X9_part_0 (v23 := 0) (I25 := I) (v27 := 0) h_x0 m1 (fun _ y1 => absurd y1 p1) (fun _ y1 => absurd y1 p1) (fun _ _ y2 => absurd y2 p2) (fun _ _ y2 => absurd y2 p2) (fun _ _ _ y3 => absurd y3 p3) (fun _ _ _ y3 _ => absurd y3 p3) (fun _ _ _ y3 _ => absurd y3 p3) (fun _ _ _ _ y4 => absurd y4 p4) (fun _ _ _ _ y4 => absurd y4 p4) (fun _ _ _ _ _ y5 => absurd y5 p5) (fun _ _ _ _ _ y5 => absurd y5 p5) (fun _ _ _ _ _ _ y6 => absurd y6 p6) (fun _ _ _ _ _ _ y6 _ => absurd y6 p6) (fun _ _ _ _ _ _ y6 _ _ => absurd y6 p6) (fun _ _ _ _ _ _ y6 _ _ => absurd y6 p6) (fun _ _ _ _ _ _ y6 _ => absurd y6 p6) (fun _ _ _ _ _ _ _ y7 => absurd y7 p7) (fun _ _ _ _ _ _ _ y7 _ => absurd y7 p7) (fun _ _ _ _ _ _ _ y7 _ => absurd y7 p7) (fun _ _ _ _ _ _ _ _ _ => b38) (fun _ _ _ _ _ _ _ _ _ y9 => absurd y9 p9) (fun _ _ _ _ _ _ _ _ _ _ => ⟨rfl, rfl⟩) (fun _ _ _ _ _ _ _ _ y8 => absurd p8 y8) (fun y0 => absurd y0 p0), t⟩
                  · have t := t.2 p8
                    exact ⟨_, _, b_X9_part_0 (v23 := 0) (I25 := I) (v27 := 0) h_x0 m1 (fun _ y1 => absurd y1 p1) (fun _ y1 => absurd y1 p1) (fun _ _ y2 => absurd y2 p2) (fun _ _ y2 => absurd y2 p2) (fun _ _ _ y3 => absurd y3 p3) (fun _ _ _ y3 _ => absurd y3 p3) (fun _ _ _ y3 _ => absurd y3 p3) (fun _ _ _ _ y4 => absurd y4 p4) (fun _ _ _ _ y4 => absurd y4 p4) (fun _ _ _ _ _ y5 => absurd y5 p5) (fun _ _ _ _ _ y5 => absurd y5 p5) (fun _ _ _ _ _ _ y6 => absurd y6 p6) (fun _ _ _ _ _ _ y6 _ => absurd y6 p6) (fun _ _ _ _ _ _ y6 _ _ => absurd y6 p6) (fun _ _ _ _ _ _ y6 _ _ => absurd y6 p6) (fun _ _ _ _ _ _ y6 _ => absurd y6 p6) (fun _ _ _ _ _ _ _ y7 => absurd y7 p7) (fun _ _ _ _ _ _ _ y7 _ => absurd y7 p7) (fun _ _ _ _ _ _ _ y7 _ => absurd y7 p7) (fun _ _ _ _ _ _ _ _ y8 => absurd y8 p8) (fun _ _ _ _ _ _ _ _ y8 _ => absurd y8 p8) (fun _ _ _ _ _ _ _ _ y8 _ => absurd y8 p8) (fun _ _ _ _ _ _ _ _ _ => ⟨rfl, rfl⟩) (fun y0 => absurd y0 p0), t⟩
abbrev s_X9_mark_0 (γ : rG) (l : Launch) (x0 : Nat) (x1 : Int32) (h : rHeap) (Q : rHeap → Option Value → Prop) : Prop := rW γ l m_X9_mark 0 0 0 [some (.ref x0), some (.int x1)] [] h Q
theorem w_X9_mark_0 {γ : rG} {l : Launch} {Q : rHeap → Option Value → Prop} {sh : Nat × (Nat → Nat) × (Nat → Nat)} {I : Nat → Nat → Int32} {J : Nat → Nat → Int64} {R : Nat → Nat → Option Nat} {x0 : Nat} {x1 : Int32}
    (h_x0 : At9 sh R x0)
    (t : (x1 < 0 → (Q (sh, I, J, R) (some (.int (-1 : Int32))))) ∧ (¬ x1 < 0 → ((((I x0 39) - (1 : Int32)) ≤ x1 → (Q (sh, I, J, R) (some (.int (-1 : Int32))))) ∧ (¬ ((I x0 39) - (1 : Int32)) ≤ x1 → (vp_in x1 8 ∧ (Q (sh, I, J, R) (some (.int ((I (x0 + 29) x1.toNatClampNeg)))))))))) :
    rW γ l m_X9_mark 0 0 0 [some (.ref x0), some (.int x1)] [] (sh, I, J, R) Q := by
  by_cases p0 : x1 < 0
  · have t := t.1 p0
    exact ⟨_, _, b_X9_mark_0  h_x0 (fun _ => ⟨rfl, rfl⟩) (fun y0 _ => absurd p0 y0) (fun y0 _ => absurd p0 y0) (fun y0 _ => absurd p0 y0), t⟩
  · have t := t.2 p0
    by_cases p1 : ((I x0 39) - (1 : Int32)) ≤ x1
    · have t := t.1 p1
      exact ⟨_, _, b_X9_mark_0  h_x0 (fun y0 => absurd y0 p0) (fun _ _ => ⟨rfl, rfl⟩) (fun _ y1 => absurd p1 y1) (fun _ y1 => absurd p1 y1), t⟩
    · have t := t.2 p1
      obtain ⟨b5, t⟩ := t
      exact ⟨_, _, b_X9_mark_0  h_x0 (fun y0 => absurd y0 p0) (fun _ y1 => absurd y1 p1) (fun _ _ => b5) (fun _ _ => ⟨rfl, rfl⟩), t⟩
abbrev s_X9_layers_0 (γ : rG) (l : Launch) (x0 : Nat) (x1 : Int32) (h : rHeap) (Q : rHeap → Option Value → Prop) : Prop := rW γ l m_X9_layers 0 0 0 [some (.ref x0), some (.int x1)] [] h Q
theorem w_X9_layers_0 {γ : rG} {l : Launch} {Q : rHeap → Option Value → Prop} {sh : Nat × (Nat → Nat) × (Nat → Nat)} {I : Nat → Nat → Int32} {J : Nat → Nat → Int64} {R : Nat → Nat → Option Nat} {x0 : Nat} {x1 : Int32}
    (h_x0 : At9 sh R x0)
    (t : ∃ (v2 : Int32), rMet γ l m_X9_isColumn [.ref x0, .int x1] (sh, I, J, R) (sh, I, J, R) (some (.int v2)) ∧ ((v2 = 0 → (Q (sh, I, J, R) (some (.int (-1 : Int32))))) ∧ (¬ v2 = 0 → (∃ (v6 : Int32), rMet γ l m_X9_layersOf [.ref x0, .int (I x0 48), .int x1] (sh, I, J, R) (sh, I, J, R) (some (.int v6)) ∧ (Q (sh, I, J, R) (some (.int v6))))))) :
    rW γ l m_X9_layers 0 0 0 [some (.ref x0), some (.int x1)] [] (sh, I, J, R) Q := by
  obtain ⟨v2, m1, t⟩ := t
  by_cases p0 : v2 = 0
  · have t := t.1 p0
    exact ⟨_, _, b_X9_layers_0 (v6 := 0) h_x0 m1 (fun _ => ⟨rfl, rfl⟩) (fun y0 => absurd p0 y0) (fun y0 => absurd p0 y0), t⟩
  · have t := t.2 p0
    obtain ⟨v6, m5, t⟩ := t
    exact ⟨_, _, b_X9_layers_0  h_x0 m1 (fun y0 => absurd y0 p0) (fun _ => m5) (fun _ => ⟨rfl, rfl⟩), t⟩
