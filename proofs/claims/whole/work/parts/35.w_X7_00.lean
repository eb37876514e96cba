abbrev s_X7_addHand_0 (γ : rG) (l : Launch) (x0 : Nat) (x1 : Int32) (h : rHeap) (Q : rHeap → Option Value → Prop) : Prop := rW γ l m_X7_addHand 0 0 0 [some (.ref x0), some (.int x1), none] [] h Q
theorem w_X7_addHand_0 {γ : rG} {l : Launch} {Q : rHeap → Option Value → Prop} {sh : Nat × (Nat → Nat) × (Nat → Nat)} {I : Nat → Nat → Int32} {J : Nat → Nat → Int64} {R : Nat → Nat → Option Nat} {x0 : Nat} {x1 : Int32}
    (h_x0 : At7 sh R x0)
    (t : ((6 : Int32) ≤ (I x0 0) → (Q (sh, I, J, R) (some (.int (-1 : Int32))))) ∧ (¬ (6 : Int32) ≤ (I x0 0) → ((x1 < (1 : Int32) → (Q (sh, I, J, R) (some (.int (-1 : Int32))))) ∧ (¬ x1 < (1 : Int32) → ((x1 ≤ ((36 : Int32) - (I x0 1)) → (rW γ l m_X7_addHand 0 0 29 [some (.ref x0), some (.int x1), some (.int (0 : Int32))] [] (sh, I, J, R) Q)) ∧ (¬ x1 ≤ ((36 : Int32) - (I x0 1)) → (Q (sh, I, J, R) (some (.int (-1 : Int32)))))))))) :
    rW γ l m_X7_addHand 0 0 0 [some (.ref x0), some (.int x1), none] [] (sh, I, J, R) Q := by
  by_cases p0 : (6 : Int32) ≤ (I x0 0)
  · have t := t.1 p0
    exact ⟨_, _, b_X7_addHand_0  h_x0 (fun _ => ⟨rfl, rfl⟩) (fun y0 _ => absurd p0 y0) (fun y0 _ _ => absurd p0 y0) (fun y0 _ _ => absurd p0 y0), t⟩
  · have t := t.2 p0
    by_cases p1 : x1 < (1 : Int32)
    · have t := t.1 p1
      exact ⟨_, _, b_X7_addHand_0  h_x0 (fun y0 => absurd y0 p0) (fun _ _ => ⟨rfl, rfl⟩) (fun _ y1 _ => absurd p1 y1) (fun _ y1 _ => absurd p1 y1), t⟩
    · have t := t.2 p1
      by_cases p2 : x1 ≤ ((36 : Int32) - (I x0 1))
      · have t := t.1 p2
        obtain ⟨hf, r, t, q⟩ := t
        exact ⟨hf, r, b_X7_addHand_0  h_x0 (fun y0 => absurd y0 p0) (fun _ y1 => absurd y1 p1) (fun _ _ _ => t) (fun _ _ y2 => absurd p2 y2), q⟩
      · have t := t.2 p2
        exact ⟨_, _, b_X7_addHand_0  h_x0 (fun y0 => absurd y0 p0) (fun _ y1 => absurd y1 p1) (fun _ _ y2 => absurd y2 p2) (fun _ _ _ => ⟨rfl, rfl⟩), t⟩
abbrev s_X7_addHand_29 (γ : rG) (l : Launch) (x0 : Nat) (x1 : Int32) (x2 : Int32) (h : rHeap) (Q : rHeap → Option Value → Prop) : Prop := rW γ l m_X7_addHand 0 0 29 [some (.ref x0), some (.int x1), some (.int x2)] [] h Q
theorem w_X7_addHand_29 {γ : rG} {l : Launch} {Q : rHeap → Option Value → Prop} {sh : Nat × (Nat → Nat) × (Nat → Nat)} {I : Nat → Nat → Int32} {J : Nat → Nat → Int64} {R : Nat → Nat → Option Nat} {x0 : Nat} {x1 : Int32} {x2 : Int32}
    (h_x0 : At7 sh R x0)
    (t : (x1 ≤ x2 → (Q (sh, (up (up I x0 3 (0 : Int32)) x0 0 ((((up I x0 3 (0 : Int32)) x0 0) + (1 : Int32)))), J, R) (some (.int ((((up (up I x0 3 (0 : Int32)) x0 0 ((((up I x0 3 (0 : Int32)) x0 0) + (1 : Int32)))) x0 0) - (1 : Int32))))))) ∧ (¬ x1 ≤ x2 → (vp_in (I x0 1) 36 ∧ (rW γ l m_X7_addHand 0 0 29 [some (.ref x0), some (.int x1), some (.int (x2 + (1 : Int32)))] [] (sh, (up (up I (x0 + 1) (I x0 1).toNatClampNeg (I x0 0)) x0 1 ((((up I (x0 + 1) (I x0 1).toNatClampNeg (I x0 0)) x0 1) + (1 : Int32)))), J, R) Q)))) :
    rW γ l m_X7_addHand 0 0 29 [some (.ref x0), some (.int x1), some (.int x2)] [] (sh, I, J, R) Q := by
  by_cases p0 : x1 ≤ x2
  · have t := t.1 p0
    exact ⟨_, _, b_X7_addHand_29  h_x0 (fun _ => ⟨rfl, rfl⟩) (fun y0 => absurd p0 y0) (fun y0 => absurd p0 y0), t⟩
  · have t := t.2 p0
    obtain ⟨b3, t⟩ := t
    obtain ⟨hf, r, t, q⟩ := t
    exact ⟨hf, r, b_X7_addHand_29  h_x0 (fun y0 => absurd y0 p0) (fun _ => b3) (fun _ => t), q⟩
abbrev s_X7_addLook_0 (γ : rG) (l : Launch) (x0 : Nat) (x1 : Int32) (x2 : Int32) (h : rHeap) (Q : rHeap → Option Value → Prop) : Prop := rW γ l m_X7_addLook 0 0 0 [some (.ref x0), some (.int x1), some (.int x2)] [] h Q
theorem w_X7_addLook_0 {γ : rG} {l : Launch} {Q : rHeap → Option Value → Prop} {sh : Nat × (Nat → Nat) × (Nat → Nat)} {I : Nat → Nat → Int32} {J : Nat → Nat → Int64} {R : Nat → Nat → Option Nat} {x0 : Nat} {x1 : Int32} {x2 : Int32}
    (h_x0 : At7 sh R x0)
    (t : ((40 : Int32) ≤ (I x0 2) → (Q (sh, I, J, R) (some (.int (-1 : Int32))))) ∧ (¬ (40 : Int32) ≤ (I x0 2) → ((x1 < 0 → (Q (sh, I, J, R) (some (.int (-1 : Int32))))) ∧ (¬ x1 < 0 → (((I x0 1) ≤ x1 → (Q (sh, I, J, R) (some (.int (-1 : Int32))))) ∧ (¬ (I x0 1) ≤ x1 → ((x2 < 0 → (Q (sh, I, J, R) (some (.int (-1 : Int32))))) ∧ (¬ x2 < 0 → ((x2 ≤ (2 : Int32) → (vp_in (I x0 2) 40 ∧ (vp_in (((up I (x0 + 2) (I x0 2).toNatClampNeg x1) x0 2)) 40 ∧ (Q (sh, (up (up (up (up I (x0 + 2) (I x0 2).toNatClampNeg x1) (x0 + 3) (((up I (x0 + 2) (I x0 2).toNatClampNeg x1) x0 2)).toNatClampNeg x2) x0 3 (0 : Int32)) x0 2 ((((up (up (up I (x0 + 2) (I x0 2).toNatClampNeg x1) (x0 + 3) (((up I (x0 + 2) (I x0 2).toNatClampNeg x1) x0 2)).toNatClampNeg x2) x0 3 (0 : Int32)) x0 2) + (1 : Int32)))), J, R) (some (.int ((((up (up (up (up I (x0 + 2) (I x0 2).toNatClampNeg x1) (x0 + 3) (((up I (x0 + 2) (I x0 2).toNatClampNeg x1) x0 2)).toNatClampNeg x2) x0 3 (0 : Int32)) x0 2 ((((up (up (up I (x0 + 2) (I x0 2).toNatClampNeg x1) (x0 + 3) (((up I (x0 + 2) (I x0 2).toNatClampNeg x1) x0 2)).toNatClampNeg x2) x0 3 (0 : Int32)) x0 2) + (1 : Int32)))) x0 2) - (1 : Int32))))))))) ∧ (¬ x2 ≤ (2 : Int32) → (Q (sh, I, J, R) (some (.int (-1 : Int32)))))))))))))) :
    rW γ l m_X7_addLook 0 0 0 [some (.ref x0), some (.int x1), some (.int x2)] [] (sh, I, J, R) Q := by
  by_cases p0 : (40 : Int32) ≤ (I x0 2)
  · have t := t.1 p0
    exact ⟨_, _, b_X7_addLook_0  h_x0 (fun _ => ⟨rfl, rfl⟩) (fun y0 _ => absurd p0 y0) (fun y0 _ _ => absurd p0 y0) (fun y0 _ _ _ => absurd p0 y0) (fun y0 _ _ _ _ => absurd p0 y0) (fun y0 _ _ _ _ => absurd p0 y0) (fun y0 _ _ _ _ => absurd p0 y0) (fun y0 _ _ _ _ => absurd p0 y0), t⟩
  · have t := t.2 p0
    by_cases p1 : x1 < 0
    · have t := t.1 p1
      exact ⟨_, _, b_X7_addLook_0  h_x0 (fun y0 => absurd y0 p0) (fun _ _ => ⟨rfl, rfl⟩) (fun _ y1 _ => absurd p1 y1) (fun _ y1 _ _ => absurd p1 y1) (fun _ y1 _ _ _ => absurd p1 y1) (fun _ y1 _ _ _ => absurd p1 y1) (fun _ y1 _ _ _ => absurd p1 y1) (fun _ y1 _ _ _ => absurd p1 y1), t⟩
    · have t := t.2 p1
      by_cases p2 : (I x0 1) ≤ x1
      · have t := t.1 p2
        exact ⟨_, _, b_X7_addLook_0  h_x0 (fun y0 => absurd y0 p0) (fun _ y1 => absurd y1 p1) (fun _ _ _ => ⟨rfl, rfl⟩) (fun _ _ y2 _ => absurd p2 y2) (fun _ _ y2 _ _ => absurd p2 y2) (fun _ _ y2 _ _ => absurd p2 y2) (fun _ _ y2 _ _ => absurd p2 y2) (fun _ _ y2 _ _ => absurd p2 y2), t⟩
      · have t := t.2 p2
        by_cases p3 : x2 < 0
        · have t := t.1 p3
          exact ⟨_, _, b_X7_addLook_0  h_x0 (fun y0 => absurd y0 p0) (fun _ y1 => absurd y1 p1) (fun _ _ y2 => absurd y2 p2) (fun _ _ _ _ => ⟨rfl, rfl⟩) (fun _ _ _ y3 _ => absurd p3 y3) (fun _ _ _ y3 _ => absurd p3 y3) (fun _ _ _ y3 _ => absurd p3 y3) (fun _ _ _ y3 _ => absurd p3 y3), t⟩
        · have t := t.2 p3
          by_cases p4 : x2 ≤ (2 : Int32)
          · have t := t.1 p4
            obtain ⟨b10, t⟩ := t
            obtain ⟨b11, t⟩ := t
            exact ⟨_, _, b_X7_addLook_0  h_x0 (fun y0 => absurd y0 p0) (fun _ y1 => absurd y1 p1) (fun _ _ y2 => absurd y2 p2) (fun _ _ _ y3 => absurd y3 p3) (fun _ _ _ _ _ => b10) (fun _ _ _ _ _ => b11) (fun _ _ _ _ _ => ⟨rfl, rfl⟩) (fun _ _ _ _ y4 => absurd p4 y4), t⟩
          · have t := t.2 p4
            exact ⟨_, _, b_X7_addLook_0  h_x0 (fun y0 => absurd y0 p0) (fun _ y1 => absurd y1 p1) (fun _ _ y2 => absurd y2 p2) (fun _ _ _ y3 => absurd y3 p3) (fun _ _ _ _ y4 => absurd y4 p4) (fun _ _ _ _ y4 => absurd y4 p4) (fun _ _ _ _ y4 => absurd y4 p4) (fun _ _ _ _ _ => ⟨rfl, rfl⟩), t⟩
abbrev s_X7_knows_0 (γ : rG) (l : Launch) (x0 : Nat) (x1 : Int32) (h : rHeap) (Q : rHeap → Option Value → Prop) : Prop := rW γ l m_X7_knows 0 0 0 [some (.ref x0), some (.int x1)] [] h Q
theorem w_X7_knows_0 {γ : rG} {l : Launch} {Q : rHeap → Option Value → Prop} {sh : Nat × (Nat → Nat) × (Nat → Nat)} {I : Nat → Nat → Int32} {J : Nat → Nat → Int64} {R : Nat → Nat → Option Nat} {x0 : Nat} {x1 : Int32}
    (h_x0 : At7 sh R x0)
    (t : (x1 < 0 → (Q (sh, I, J, R) (some (.int (0 : Int32))))) ∧ (¬ x1 < 0 → (((I x0 2) < x1 → (Q (sh, I, J, R) (some (.int (0 : Int32))))) ∧ (¬ (I x0 2) < x1 → (Q (sh, I, J, R) (some (.int (1 : Int32)))))))) :
    rW γ l m_X7_knows 0 0 0 [some (.ref x0), some (.int x1)] [] (sh, I, J, R) Q := by
  by_cases p0 : x1 < 0
  · have t := t.1 p0
    exact ⟨_, _, b_X7_knows_0  h_x0 (fun _ => ⟨rfl, rfl⟩) (fun y0 _ => absurd p0 y0) (fun y0 _ => absurd p0 y0), t⟩
  · have t := t.2 p0
    by_cases p1 : (I x0 2) < x1
    · have t := t.1 p1
      exact ⟨_, _, b_X7_knows_0  h_x0 (fun y0 => absurd y0 p0) (fun _ _ => ⟨rfl, rfl⟩) (fun _ y1 => absurd p1 y1), t⟩
    · have t := t.2 p1
      exact ⟨_, _, b_X7_knows_0  h_x0 (fun y0 => absurd y0 p0) (fun _ y1 => absurd y1 p1) (fun _ _ => ⟨rfl, rfl⟩), t⟩
abbrev s_X7_know_0 (γ : rG) (l : Launch) (x0 : Nat) (x1 : Int32) (x2 : Nat) (h : rHeap) (Q : rHeap → Option Value → Prop) : Prop := rW γ l m_X7_know 0 0 0 [some (.ref x0), some (.int x1), some (.ref x2), none] [] h Q
theorem w_X7_know_0 {γ : rG} {l : Launch} {Q : rHeap → Option Value → Prop} {sh : Nat × (Nat → Nat) × (Nat → Nat)} {I : Nat → Nat → Int32} {J : Nat → Nat → Int64} {R : Nat → Nat → Option Nat} {x0 : Nat} {x1 : Int32} {x2 : Nat}
    (h_x0 : At7 sh R x0)
    (h_x2 : At3 sh R x2)
    (t : ∃ (I1 : Nat → Nat → Int32), rMet γ l m_X7_setCosts [.ref x0, .ref x2] (sh, I, J, R) (sh, I1, J, R) none ∧ (∃ (I3 : Nat → Nat → Int32), rMet γ l m_J7_fill_53178 [.ref (x0 + 7), .int (0 : Int32)] (sh, I1, J, R) (sh, I3, J, R) none ∧ (rW γ l m_X7_know 0 0 15 [some (.ref x0), some (.int x1), none, some (.int (0 : Int32))] [] (sh, I3, J, R) Q))) :
    rW γ l m_X7_know 0 0 0 [some (.ref x0), some (.int x1), some (.ref x2), none] [] (sh, I, J, R) Q := by
  obtain ⟨I1, m2, t⟩ := t
  obtain ⟨I3, m4, t⟩ := t
  obtain ⟨hf, r, t, q⟩ := t
  exact ⟨hf, r, b_X7_know_0  h_x0 h_x2 m2 m4 t, q⟩
abbrev s_X7_know_15 (γ : rG) (l : Launch) (x0 : Nat) (x1 : Int32) (x3 : Int32) (h : rHeap) (Q : rHeap → Option Value → Prop) : Prop := rW γ l m_X7_know 0 0 15 [some (.ref x0), some (.int x1), none, some (.int x3)] [] h Q
theorem w_X7_know_15 {γ : rG} {l : Launch} {Q : rHeap → Option Value → Prop} {sh : Nat × (Nat → Nat) × (Nat → Nat)} {I : Nat → Nat → Int32} {J : Nat → Nat → Int64} {R : Nat → Nat → Option Nat} {x0 : Nat} {x1 : Int32} {x3 : Int32}
    (h_x0 : At7 sh R x0)
    (t : (x1 ≤ x3 → (Q (sh, I, J, R) (none))) ∧ (¬ x1 ≤ x3 → (∃ (I3 : Nat → Nat → Int32), rMet γ l m_X7_addDoubt [.ref x0, .int x3] (sh, I, J, R) (sh, I3, J, R) none ∧ (rW γ l m_X7_know 0 0 15 [some (.ref x0), some (.int x1), none, some (.int (x3 + (1 : Int32)))] [] (sh, I3, J, R) Q)))) :
    rW γ l m_X7_know 0 0 15 [some (.ref x0), some (.int x1), none, some (.int x3)] [] (sh, I, J, R) Q := by
  by_cases p0 : x1 ≤ x3
  · have t := t.1 p0
    exact ⟨_, _, b_X7_know_15 (I3 := I) h_x0 (fun _ => ⟨rfl, rfl⟩) (fun y0 => absurd p0 y0) (fun y0 => absurd p0 y0), t⟩
  · have t := t.2 p0
    obtain ⟨I3, m4, t⟩ := t
    obtain ⟨hf, r, t, q⟩ := t
    exact ⟨hf, r, b_X7_know_15  h_x0 (fun y0 => absurd y0 p0) (fun _ => m4) (fun _ => t), q⟩
abbrev s_X7_addDoubt_0 (γ : rG) (l : Launch) (x0 : Nat) (x1 : Int32) (h : rHeap) (Q : rHeap → Option Value → Prop) : Prop := rW γ l m_X7_addDoubt 0 0 0 [some (.ref x0), some (.int x1), none] [] h Q
theorem w_X7_addDoubt_0 {γ : rG} {l : Launch} {Q : rHeap → Option Value → Prop} {sh : Nat × (Nat → Nat) × (Nat → Nat)} {I : Nat → Nat → Int32} {J : Nat → Nat → Int64} {R : Nat → Nat → Option Nat} {x0 : Nat} {x1 : Int32}
    (h_x0 : At7 sh R x0)
    (t : rW γ l m_X7_addDoubt 0 0 2 [some (.ref x0), some (.int x1), some (.int (0 : Int32))] [] (sh, I, J, R) Q) :
    rW γ l m_X7_addDoubt 0 0 0 [some (.ref x0), some (.int x1), none] [] (sh, I, J, R) Q := by
  obtain ⟨hf, r, t, q⟩ := t
  exact ⟨hf, r, b_X7_addDoubt_0  h_x0 t, q⟩
abbrev s_X7_addDoubt_2 (γ : rG) (l : Launch) (x0 : Nat) (x1 : Int32) (x2 : Int32) (h : rHeap) (Q : rHeap → Option Value → Prop) : Prop := rW γ l m_X7_addDoubt 0 0 2 [some (.ref x0), some (.int x1), some (.int x2)] [] h Q
theorem w_X7_addDoubt_2 {γ : rG} {l : Launch} {Q : rHeap → Option Value → Prop} {sh : Nat × (Nat → Nat) × (Nat → Nat)} {I : Nat → Nat → Int32} {J : Nat → Nat → Int64} {R : Nat → Nat → Option Nat} {x0 : Nat} {x1 : Int32} {x2 : Int32}
    (h_x0 : At7 sh R x0)
    (t : ((2 : Int32) < x2 → (Q (sh, I, J, R) (none))) ∧ (¬ (2 : Int32) < x2 → (vp_in x1 40 ∧ ((x2 = (I (x0 + 3) x1.toNatClampNeg) → (rW γ l m_X7_addDoubt 0 0 2 [some (.ref x0), some (.int x1), some (.int (x2 + (1 : Int32)))] [] (sh, I, J, R) Q)) ∧ (¬ x2 = (I (x0 + 3) x1.toNatClampNeg) → (vp_in x1 40 ∧ (vp_in ((((3 : Int32) * (I (x0 + 2) x1.toNatClampNeg)) + x2)) 108 ∧ (vp_in x1 40 ∧ (vp_in ((((3 : Int32) * (I (x0 + 2) x1.toNatClampNeg)) + x2)) 108 ∧ (rW γ l m_X7_addDoubt 0 0 2 [some (.ref x0), some (.int x1), some (.int (x2 + (1 : Int32)))] [] (sh, (up I (x0 + 7) ((((3 : Int32) * (I (x0 + 2) x1.toNatClampNeg)) + x2)).toNatClampNeg (((I (x0 + 7) ((((3 : Int32) * (I (x0 + 2) x1.toNatClampNeg)) + x2)).toNatClampNeg) + (I (x0 + 6) x1.toNatClampNeg)))), J, R) Q)))))))))) :
    rW γ l m_X7_addDoubt 0 0 2 [some (.ref x0), some (.int x1), some (.int x2)] [] (sh, I, J, R) Q := by
  by_cases p0 : (2 : Int32) < x2
  · have t := t.1 p0
    exact ⟨_, _, b_X7_addDoubt_2  h_x0 (fun _ => ⟨rfl, rfl⟩) (fun y0 => absurd p0 y0) (fun y0 _ => absurd p0 y0) (fun y0 _ => absurd p0 y0) (fun y0 _ => absurd p0 y0) (fun y0 _ => absurd p0 y0) (fun y0 _ => absurd p0 y0) (fun y0 _ => absurd p0 y0), t⟩
  · have t := t.2 p0
    obtain ⟨b3, t⟩ := t
    by_cases p1 : x2 = (I (x0 + 3) x1.toNatClampNeg)
    · have t := t.1 p1
      obtain ⟨hf, r, t, q⟩ := t
      exact ⟨hf, r, b_X7_addDoubt_2  h_x0 (fun y0 => absurd y0 p0) (fun _ => b3) (fun _ _ => t) (fun _ y1 => absurd p1 y1) (fun _ y1 => absurd p1 y1) (fun _ y1 => absurd p1 y1) (fun _ y1 => absurd p1 y1) (fun _ y1 => absurd p1 y1), q⟩
    · have t := t.2 p1
      obtain ⟨b6, t⟩ := t
      obtain ⟨b7, t⟩ := t
      obtain ⟨b8, t⟩ := t
      obtain ⟨b9, t⟩ := t
      obtain ⟨hf, r, t, q⟩ := t
      exact ⟨hf, r, b_X7_addDoubt_2  h_x0 (fun y0 => absurd y0 p0) (fun _ => b3) (fun _ y1 => absurd y1 p1) (fun _ _ => b6) (fun _ _ => b7) (fun _ _ => b8) (fun _ _ => b9) (fun _ _ => t), q⟩
abbrev s_X7_setCosts_0 (γ : rG) (l : Launch) (x0 : Nat) (x1 : Nat) (h : rHeap) (Q : rHeap → Option Value → Prop) : Prop := rW γ l m_X7_setCosts 0 0 0 [some (.ref x0), some (.ref x1), none] [] h Q
theorem w_X7_setCosts_0 {γ : rG} {l : Launch} {Q : rHeap → Option Value → Prop} {sh : Nat × (Nat → Nat) × (Nat → Nat)} {I : Nat → Nat → Int32} {J : Nat → Nat → Int64} {R : Nat → Nat → Option Nat} {x0 : Nat} {x1 : Nat}
    (h_x0 : At7 sh R x0)
    (h_x1 : At3 sh R x1)
    (t : ((I x0 3) = 0 → (rW γ l m_X7_setCosts 0 0 15 [some (.ref x0), some (.ref x1), some (.int (0 : Int32))] [] (sh, (up I x0 3 (1 : Int32)), J, R) Q)) ∧ (¬ (I x0 3) = 0 → (Q (sh, I, J, R) (none)))) :
    rW γ l m_X7_setCosts 0 0 0 [some (.ref x0), some (.ref x1), none] [] (sh, I, J, R) Q := by
  by_cases p0 : (I x0 3) = 0
  · have t := t.1 p0
    obtain ⟨hf, r, t, q⟩ := t
    exact ⟨hf, r, b_X7_setCosts_0  h_x0 h_x1 (fun _ => t) (fun y0 => absurd p0 y0), q⟩
  · have t := t.2 p0
    exact ⟨_, _, b_X7_setCosts_0  h_x0 h_x1 (fun y0 => absurd y0 p0) (fun _ => ⟨rfl, rfl⟩), t⟩
abbrev s_X7_setCosts_15 (γ : rG) (l : Launch) (x0 : Nat) (x1 : Nat) (x2 : Int32) (h : rHeap) (Q : rHeap → Option Value → Prop) : Prop := rW γ l m_X7_setCosts 0 0 15 [some (.ref x0), some (.ref x1), some (.int x2)] [] h Q
theorem w_X7_setCosts_15 {γ : rG} {l : Launch} {Q : rHeap → Option Value → Prop} {sh : Nat × (Nat → Nat) × (Nat → Nat)} {I : Nat → Nat → Int32} {J : Nat → Nat → Int64} {R : Nat → Nat → Option Nat} {x0 : Nat} {x1 : Nat} {x2 : Int32}
    (h_x0 : At7 sh R x0)
    (h_x1 : At3 sh R x1)
    (t : ((I x0 1) ≤ x2 → (rW γ l m_X7_setCosts 0 0 87 [some (.ref x0), some (.ref x1), some (.int (0 : Int32))] [] (sh, I, J, R) Q)) ∧ (¬ (I x0 1) ≤ x2 → (vp_in x2 36 ∧ (∃ (I4 : Nat → Nat → Int32), rMet γ l m_X3_setVars [.ref x1, .int (7 : Int32), .int (0 : Int32), .int x2, .int (I (x0 + 1) x2.toNatClampNeg), .int (0 : Int32)] (sh, I, J, R) (sh, I4, J, R) none ∧ (∃ (I6 : Nat → Nat → Int32) (v8 : Int32), rMet γ l m_X3_worthOfFirst [.ref x1, .int (4 : Int32), .int (10 : Int32)] (sh, I4, J, R) (sh, I6, J, R) (some (.int v8)) ∧ (vp_in x2 36 ∧ (vp_in x2 36 ∧ (∃ (I11 : Nat → Nat → Int32), rMet γ l m_X3_setVars [.ref x1, .int (8 : Int32), .int (0 : Int32), .int x2, .int ((up I6 (x0 + 4) x2.toNatClampNeg v8) (x0 + 1) x2.toNatClampNeg), .int (0 : Int32)] (sh, (up I6 (x0 + 4) x2.toNatClampNeg v8), J, R) (sh, I11, J, R) none ∧ (∃ (I13 : Nat → Nat → Int32) (v15 : Int32), rMet γ l m_X3_worthOfFirst [.ref x1, .int (4 : Int32), .int (10 : Int32)] (sh, I11, J, R) (sh, I13, J, R) (some (.int v15)) ∧ (vp_in x2 36 ∧ (rW γ l m_X7_setCosts 0 0 15 [some (.ref x0), some (.ref x1), some (.int (x2 + (1 : Int32)))] [] (sh, (up I13 (x0 + 5) x2.toNatClampNeg v15), J, R) Q))))))))))) :
    rW γ l m_X7_setCosts 0 0 15 [some (.ref x0), some (.ref x1), some (.int x2)] [] (sh, I, J, R) Q := by
  by_cases p0 : (I x0 1) ≤ x2
  · have t := t.1 p0
    obtain ⟨hf, r, t, q⟩ := t
    exact ⟨hf, r, b_X7_setCosts_15 (I4 := I) (I6 := I) (v8 := 0) (I11 := I) (I13 := I) (v15 := 0) h_x0 h_x1 (fun _ => t) (fun y0 => absurd p0 y0) (fun y0 => absurd p0 y0) (fun y0 => absurd p0 y0) (fun y0 => absurd p0 y0) (fun y0 => absurd p0 y0) (fun y0 => absurd p0 y0) (fun y0 => absurd p0 y0) (fun y0 => absurd p0 y0) (fun y0 => absurd p0 y0), q⟩
  · have t := t.2 p0
    obtain ⟨b3, t⟩ := t
    obtain ⟨I4, m5, t⟩ := t
    obtain ⟨I6, v8, m7, t⟩ := t
    obtain ⟨b9, t⟩ := t
    obtain ⟨b10, t⟩ := t
    obtain ⟨I11, m12, t⟩ := t
    obtain ⟨I13, v15, m14, t⟩ := t
    obtain ⟨b16, t⟩ := t
    obtain ⟨hf, r, t, q⟩ := t
    exact ⟨hf, r, b_X7_setCosts_15  h_x0 h_x1 (fun y0 => absurd y0 p0) (fun _ => b3) (fun _ => m5) (fun _ => m7) (fun _ => b9) (fun _ => b10) (fun _ => m12) (fun _ => m14) (fun _ => b16) (fun _ => t), q⟩
abbrev s_X7_setCosts_87 (γ : rG) (l : Launch) (x0 : Nat) (x1 : Nat) (x2 : Int32) (h : rHeap) (Q : rHeap → Option Value → Prop) : Prop := rW γ l m_X7_setCosts 0 0 87 [some (.ref x0), some (.ref x1), some (.int x2)] [] h Q
theorem w_X7_setCosts_87 {γ : rG} {l : Launch} {Q : rHeap → Option Value → Prop} {sh : Nat × (Nat → Nat) × (Nat → Nat)} {I : Nat → Nat → Int32} {J : Nat → Nat → Int64} {R : Nat → Nat → Option Nat} {x0 : Nat} {x1 : Nat} {x2 : Int32}
    (h_x0 : At7 sh R x0)
    (h_x1 : At3 sh R x1)
    (t : ((I x0 2) ≤ x2 → (Q (sh, I, J, R) (none))) ∧ (¬ (I x0 2) ≤ x2 → (vp_in x2 40 ∧ (vp_in x2 40 ∧ (vp_in ((I (x0 + 2) x2.toNatClampNeg)) 36 ∧ (vp_in x2 40 ∧ (∃ (I7 : Nat → Nat → Int32), rMet γ l m_X3_setVars [.ref x1, .int (9 : Int32), .int (0 : Int32), .int (I (x0 + 2) x2.toNatClampNeg), .int (I (x0 + 1) ((I (x0 + 2) x2.toNatClampNeg)).toNatClampNeg), .int (I (x0 + 3) x2.toNatClampNeg)] (sh, I, J, R) (sh, I7, J, R) none ∧ (∃ (I9 : Nat → Nat → Int32) (v11 : Int32), rMet γ l m_X3_worthOfFirst [.ref x1, .int (5 : Int32), .int (10 : Int32)] (sh, I7, J, R) (sh, I9, J, R) (some (.int v11)) ∧ (vp_in x2 40 ∧ (rW γ l m_X7_setCosts 0 0 87 [some (.ref x0), some (.ref x1), some (.int (x2 + (1 : Int32)))] [] (sh, (up I9 (x0 + 6) x2.toNatClampNeg v11), J, R) Q)))))))))) :
    rW γ l m_X7_setCosts 0 0 87 [some (.ref x0), some (.ref x1), some (.int x2)] [] (sh, I, J, R) Q := by
  by_cases p0 : (I x0 2) ≤ x2
  · have t := t.1 p0
    exact ⟨_, _, b_X7_setCosts_87 (I7 := I) (I9 := I) (v11 := 0) h_x0 h_x1 (fun _ => ⟨rfl, rfl⟩) (fun y0 => absurd p0 y0) (fun y0 => absurd p0 y0) (fun y0 => absurd p0 y0) (fun y0 => absurd p0 y0) (fun y0 => absurd p0 y0) (fun y0 => absurd p0 y0) (fun y0 => absurd p0 y0) (fun y0 => absurd p0 y0), t⟩
  · have t := t.2 p0
    obtain ⟨b3, t⟩ := t
    obtain ⟨b4, t⟩ := t
    obtain ⟨b5, t⟩ := t
    obtain ⟨b6, t⟩ := t
    obtain ⟨I7, m8, t⟩ := t
    obtain ⟨I9, v11, m10, t⟩ := t
    obtain ⟨b12, t⟩ := t
    obtain ⟨hf, r, t, q⟩ := t
    exact ⟨hf, r, b_X7_setCosts_87  h_x0 h_x1 (fun y0 => absurd y0 p0) (fun _ => b3) (fun _ => b4) (fun _ => b5) (fun _ => b6) (fun _ => m8) (fun _ => m10) (fun _ => b12) (fun _ => t), q⟩
abbrev s_X7_weigh_0 (γ : rG) (l : Launch) (x0 : Nat) (x1 : Int32) (h : rHeap) (Q : rHeap → Option Value → Prop) : Prop := rW γ l m_X7_weigh 0 0 0 [some (.ref x0), some (.int x1), none, none] [] h Q
theorem w_X7_weigh_0 {γ : rG} {l : Launch} {Q : rHeap → Option Value → Prop} {sh : Nat × (Nat → Nat) × (Nat → Nat)} {I : Nat → Nat → Int32} {J : Nat → Nat → Int64} {R : Nat → Nat → Option Nat} {x0 : Nat} {x1 : Int32}
    (h_x0 : At7 sh R x0)
    (t : rW γ l m_X7_weigh 0 0 2 [some (.ref x0), some (.int x1), some (.int (0 : Int32)), none] [] (sh, I, J, R) Q) :
    rW γ l m_X7_weigh 0 0 0 [some (.ref x0), some (.int x1), none, none] [] (sh, I, J, R) Q := by
  obtain ⟨hf, r, t, q⟩ := t
  exact ⟨hf, r, b_X7_weigh_0  h_x0 t, q⟩
abbrev s_X7_weigh_2 (γ : rG) (l : Launch) (x0 : Nat) (x1 : Int32) (x2 : Int32) (h : rHeap) (Q : rHeap → Option Value → Prop) : Prop := rW γ l m_X7_weigh 0 0 2 [some (.ref x0), some (.int x1), some (.int x2), none] [] h Q
theorem w_X7_weigh_2 {γ : rG} {l : Launch} {Q : rHeap → Option Value → Prop} {sh : Nat × (Nat → Nat) × (Nat → Nat)} {I : Nat → Nat → Int32} {J : Nat → Nat → Int64} {R : Nat → Nat → Option Nat} {x0 : Nat} {x1 : Int32} {x2 : Int32}
    (h_x0 : At7 sh R x0)
    (t : ((2 : Int32) < x2 → (rW γ l m_X7_weigh 0 0 48 [some (.ref x0), some (.int x1), some (.int ((I x0 1) - (1 : Int32))), none] [] (sh, I, J, R) Q)) ∧ (¬ (2 : Int32) < x2 → (vp_in ((((3 : Int32) * (I x0 1)) + x2)) 111 ∧ (vp_in ((((3 : Int32) * ((up I (x0 + 8) ((((3 : Int32) * (I x0 1)) + x2)).toNatClampNeg (0 : Int32)) x0 1)) + x2)) 111 ∧ (rW γ l m_X7_weigh 0 0 2 [some (.ref x0), some (.int x1), some (.int (x2 + (1 : Int32))), none] [] (sh, (up I (x0 + 8) ((((3 : Int32) * (I x0 1)) + x2)).toNatClampNeg (0 : Int32)), (up J (x0 + 9) ((((3 : Int32) * ((up I (x0 + 8) ((((3 : Int32) * (I x0 1)) + x2)).toNatClampNeg (0 : Int32)) x0 1)) + x2)).toNatClampNeg (1 : Int64)), R) Q))))) :
    rW γ l m_X7_weigh 0 0 2 [some (.ref x0), some (.int x1), some (.int x2), none] [] (sh, I, J, R) Q := by
  by_cases p0 : (2 : Int32) < x2
  · have t := t.1 p0
    obtain ⟨hf, r, t, q⟩ := t
    exact ⟨hf, r, b_X7_weigh_2  h_x0 (fun _ => t) (fun y0 => absurd p0 y0) (fun y0 => absurd p0 y0) (fun y0 => absurd p0 y0), q⟩
  · have t := t.2 p0
    obtain ⟨b3, t⟩ := t
    obtain ⟨b4, t⟩ := t
    obtain ⟨hf, r, t, q⟩ := t
    exact ⟨hf, r, b_X7_weigh_2  h_x0 (fun y0 => absurd y0 p0) (fun _ => b3) (fun _ => b4) (fun _ => t), q⟩
abbrev s_X7_weigh_48 (γ : rG) (l : Launch) (x0 : Nat) (x1 : Int32) (x2 : Int32) (h : rHeap) (Q : rHeap → Option Value → Prop) : Prop := rW γ l m_X7_weigh 0 0 48 [some (.ref x0), some (.int x1), some (.int x2), none] [] h Q
theorem w_X7_weigh_48 {γ : rG} {l : Launch} {Q : rHeap → Option Value → Prop} {sh : Nat × (Nat → Nat) × (Nat → Nat)} {I : Nat → Nat → Int32} {J : Nat → Nat → Int64} {R : Nat → Nat → Option Nat} {x0 : Nat} {x1 : Int32} {x2 : Int32}
    (h_x0 : At7 sh R x0)
    (t : (x2 < 0 → (Q (sh, I, J, R) (none))) ∧ (¬ x2 < 0 → (rW γ l m_X7_weigh 0 0 54 [some (.ref x0), some (.int x1), some (.int x2), some (.int (0 : Int32))] [] (sh, I, J, R) Q))) :
    rW γ l m_X7_weigh 0 0 48 [some (.ref x0), some (.int x1), some (.int x2), none] [] (sh, I, J, R) Q := by
  by_cases p0 : x2 < 0
  · have t := t.1 p0
    exact ⟨_, _, b_X7_weigh_48  h_x0 (fun _ => ⟨rfl, rfl⟩) (fun y0 => absurd p0 y0), t⟩
  · have t := t.2 p0
    obtain ⟨hf, r, t, q⟩ := t
    exact ⟨hf, r, b_X7_weigh_48  h_x0 (fun y0 => absurd y0 p0) (fun _ => t), q⟩
abbrev s_X7_weigh_54 (γ : rG) (l : Launch) (x0 : Nat) (x1 : Int32) (x2 : Int32) (x3 : Int32) (h : rHeap) (Q : rHeap → Option Value → Prop) : Prop := rW γ l m_X7_weigh 0 0 54 [some (.ref x0), some (.int x1), some (.int x2), some (.int x3)] [] h Q
theorem w_X7_weigh_54 {γ : rG} {l : Launch} {Q : rHeap → Option Value → Prop} {sh : Nat × (Nat → Nat) × (Nat → Nat)} {I : Nat → Nat → Int32} {J : Nat → Nat → Int64} {R : Nat → Nat → Option Nat} {x0 : Nat} {x1 : Int32} {x2 : Int32} {x3 : Int32}
    (h_x0 : At7 sh R x0)
    (t : ((2 : Int32) < x3 → (rW γ l m_X7_weigh 0 0 48 [some (.ref x0), some (.int x1), some (.int (x2 + (-1 : Int32))), none] [] (sh, I, J, R) Q)) ∧ (¬ (2 : Int32) < x3 → (vp_in x2 36 ∧ (((I (x0 + 1) x2.toNatClampNeg) = x1 → (∃ (I9 : Nat → Nat → Int32) (J10 : Nat → Nat → Int64), rMet γ l m_X7_weighDay [.ref x0, .int x2, .int x3, .int (1 : Int32)] (sh, I, J, R) (sh, I9, J10, R) none ∧ (rW γ l m_X7_weigh 0 0 54 [some (.ref x0), some (.int x1), some (.int x2), some (.int (x3 + (1 : Int32)))] [] (sh, I9, J10, R) Q))) ∧ (¬ (I (x0 + 1) x2.toNatClampNeg) = x1 → (∃ (I5 : Nat → Nat → Int32) (J6 : Nat → Nat → Int64), rMet γ l m_X7_weighDay [.ref x0, .int x2, .int x3, .int (0 : Int32)] (sh, I, J, R) (sh, I5, J6, R) none ∧ (rW γ l m_X7_weigh 0 0 54 [some (.ref x0), some (.int x1), some (.int x2), some (.int (x3 + (1 : Int32)))] [] (sh, I5, J6, R) Q))))))) :
    rW γ l m_X7_weigh 0 0 54 [some (.ref x0), some (.int x1), some (.int x2), some (.int x3)] [] (sh, I, J, R) Q := by
  by_cases p0 : (2 : Int32) < x3
  · have t := t.1 p0
    obtain ⟨hf, r, t, q⟩ := t
    exact ⟨hf, r, b_X7_weigh_54 (I5 := I) (J6 := J) (I9 := I) (J10 := J) h_x0 (fun _ => t) (fun y0 => absurd p0 y0) (fun y0 _ => absurd p0 y0) (fun y0 _ => absurd p0 y0) (fun y0 _ => absurd p0 y0) (fun y0 _ => absurd p0 y0), q⟩
  · have t := t.2 p0
    obtain ⟨b3, t⟩ := t
    by_cases p1 : (I (x0 + 1) x2.toNatClampNeg) = x1
    · have t := t.1 p1
      obtain ⟨I9, J10, m11, t⟩ := t
      obtain ⟨hf, r, t, q⟩ := t
      exact ⟨hf, r, b_X7_weigh_54 (I5 := I) (J6 := J) h_x0 (fun y0 => absurd y0 p0) (fun _ => b3) (fun _ y1 => absurd p1 y1) (fun _ y1 => absurd p1 y1) (fun _ _ => m11) (fun _ _ => t), q⟩
    · have t := t.2 p1
      obtain ⟨I5, J6, m7, t⟩ := t
      obtain ⟨hf, r, t, q⟩ := t
      exact ⟨hf, r, b_X7_weigh_54 (I9 := I) (J10 := J) h_x0 (fun y0 => absurd y0 p0) (fun _ => b3) (fun _ _ => m7) (fun _ _ => t) (fun _ y1 => absurd y1 p1) (fun _ y1 => absurd y1 p1), q⟩
abbrev s_X7_weighDay_0 (γ : rG) (l : Launch) (x0 : Nat) (x1 : Int32) (x2 : Int32) (x3 : Int32) (h : rHeap) (Q : rHeap → Option Value → Prop) : Prop := rW γ l m_X7_weighDay 0 0 0 [some (.ref x0), some (.int x1), some (.int x2), some (.int x3), none, none, none, none, none, none, none, none] [] h Q
theorem w_X7_weighDay_0 {γ : rG} {l : Launch} {Q : rHeap → Option Value → Prop} {sh : Nat × (Nat → Nat) × (Nat → Nat)} {I : Nat → Nat → Int32} {J : Nat → Nat → Int64} {R : Nat → Nat → Option Nat} {x0 : Nat} {x1 : Int32} {x2 : Int32} {x3 : Int32}
    (h_x0 : At7 sh R x0)
    (t : ∃ (v2 : Int32), rMet γ l m_X7_costFrom [.ref x0, .int x1, .int x2, .int x2] (sh, I, J, R) (sh, I, J, R) (some (.int v2)) ∧ (vp_in ((((3 : Int32) * (x1 + (1 : Int32))) + x2)) 111 ∧ ((x2 = (1 : Int32) → (rW γ l m_X7_weighDay 0 0 33 [some (.ref x0), some (.int x1), some (.int x2), some (.int x3), some (.int v2), some (.long (J (x0 + 9) ((((3 : Int32) * (x1 + (1 : Int32))) + x2)).toNatClampNeg)), none, none, none, none, none, none] [.int (2 : Int32)] (sh, I, J, R) Q)) ∧ (¬ x2 = (1 : Int32) → (rW γ l m_X7_weighDay 0 0 33 [some (.ref x0), some (.int x1), some (.int x2), some (.int x3), some (.int v2), some (.long (J (x0 + 9) ((((3 : Int32) * (x1 + (1 : Int32))) + x2)).toNatClampNeg)), none, none, none, none, none, none] [.int (1 : Int32)] (sh, I, J, R) Q))))) :
    rW γ l m_X7_weighDay 0 0 0 [some (.ref x0), some (.int x1), some (.int x2), some (.int x3), none, none, none, none, none, none, none, none] [] (sh, I, J, R) Q := by
  obtain ⟨v2, m1, t⟩ := t
  obtain ⟨b3, t⟩ := t
  by_cases p0 : x2 = (1 : Int32)
  · have t := t.1 p0
    obtain ⟨hf, r, t, q⟩ := t
    exact ⟨hf, r, b_X7_weighDay_0  h_x0 m1 b3 (fun y0 => absurd p0 y0) (fun _ => t), q⟩
  · have t := t.2 p0
    obtain ⟨hf, r, t, q⟩ := t
    exact ⟨hf, r, b_X7_weighDay_0  h_x0 m1 b3 (fun _ => t) (fun y0 => absurd y0 p0), q⟩
abbrev s_X7_weighDay_33 (γ : rG) (l : Launch) (x0 : Nat) (x1 : Int32) (x2 : Int32) (x3 : Int32) (x4 : Int32) (x5 : Int64) (s0 : Int32) (h : rHeap) (Q : rHeap → Option Value → Prop) : Prop := rW γ l m_X7_weighDay 0 0 33 [some (.ref x0), some (.int x1), some (.int x2), some (.int x3), some (.int x4), some (.long x5), none, none, none, none, none, none] [.int s0] h Q
theorem w_X7_weighDay_33 {γ : rG} {l : Launch} {Q : rHeap → Option Value → Prop} {sh : Nat × (Nat → Nat) × (Nat → Nat)} {I : Nat → Nat → Int32} {J : Nat → Nat → Int64} {R : Nat → Nat → Option Nat} {x0 : Nat} {x1 : Int32} {x2 : Int32} {x3 : Int32} {x4 : Int32} {x5 : Int64} {s0 : Int32}
    (h_x0 : At7 sh R x0)
    (t : ∃ (v2 : Int32), rMet γ l m_X7_costFrom [.ref x0, .int x1, .int x2, .int s0] (sh, I, J, R) (sh, I, J, R) (some (.int v2)) ∧ (vp_in ((((3 : Int32) * (x1 + (1 : Int32))) + s0)) 111 ∧ ((x3 = 0 → (rW γ l m_X7_weighDay 0 0 77 [some (.ref x0), none, none, none, some (.int x4), some (.long x5), none, none, some (.int (((3 : Int32) * x1) + x2)), some (.int v2), some (.long (J (x0 + 9) ((((3 : Int32) * (x1 + (1 : Int32))) + s0)).toNatClampNeg)), none] [] (sh, I, J, R) Q)) ∧ (¬ x3 = 0 → ((s0 = (1 : Int32) → (vp_in ((((3 : Int32) * x1) + x2)) 111 ∧ (vp_in ((((3 : Int32) * x1) + x2)) 111 ∧ (Q (sh, (up I (x0 + 8) ((((3 : Int32) * x1) + x2)).toNatClampNeg x4), (up J (x0 + 9) ((((3 : Int32) * x1) + x2)).toNatClampNeg x5), R) (none))))) ∧ (¬ s0 = (1 : Int32) → (rW γ l m_X7_weighDay 0 0 77 [some (.ref x0), none, none, none, some (.int x4), some (.long x5), none, none, some (.int (((3 : Int32) * x1) + x2)), some (.int v2), some (.long (J (x0 + 9) ((((3 : Int32) * (x1 + (1 : Int32))) + s0)).toNatClampNeg)), none] [] (sh, I, J, R) Q))))))) :
    rW γ l m_X7_weighDay 0 0 33 [some (.ref x0), some (.int x1), some (.int x2), some (.int x3), some (.int x4), some (.long x5), none, none, none, none, none, none] [.int s0] (sh, I, J, R) Q := by
  obtain ⟨v2, m1, t⟩ := t
  obtain ⟨b3, t⟩ := t
  by_cases p0 : x3 = 0
  · have t := t.1 p0
    obtain ⟨hf, r, t, q⟩ := t
    exact ⟨hf, r, b_X7_weighDay_33  h_x0 m1 b3 (fun _ => t) (fun y0 _ => absurd p0 y0) (fun y0 _ => absurd p0 y0) (fun y0 _ => absurd p0 y0) (fun y0 _ => absurd p0 y0), q⟩
  · have t := t.2 p0
    by_cases p1 : s0 = (1 : Int32)
    · have t := t.1 p1
      obtain ⟨b7, t⟩ := t
      obtain ⟨b8, t⟩ := t
      exact ⟨_, _, b_X7_weighDay_33  h_x0 m1 b3 (fun y0 => absurd y0 p0) (fun _ _ => b7) (fun _ _ => b8) (fun _ _ => ⟨rfl, rfl⟩) (fun _ y1 => absurd p1 y1), t⟩
    · have t := t.2 p1
      obtain ⟨hf, r, t, q⟩ := t
      exact ⟨hf, r, b_X7_weighDay_33  h_x0 m1 b3 (fun y0 => absurd y0 p0) (fun _ y1 => absurd y1 p1) (fun _ y1 => absurd y1 p1) (fun _ y1 => absurd y1 p1) (fun _ _ => t), q⟩
abbrev s_X7_weighDay_77 (γ : rG) (l : Launch) (x0 : Nat) (x4 : Int32) (x5 : Int64) (x8 : Int32) (x9 : Int32) (x10 : Int64) (h : rHeap) (Q : rHeap → Option Value → Prop) : Prop := rW γ l m_X7_weighDay 0 0 77 [some (.ref x0), none, none, none, some (.int x4), some (.long x5), none, none, some (.int x8), some (.int x9), some (.long x10), none] [] h Q
theorem w_X7_weighDay_77 {γ : rG} {l : Launch} {Q : rHeap → Option Value → Prop} {sh : Nat × (Nat → Nat) × (Nat → Nat)} {I : Nat → Nat → Int32} {J : Nat → Nat → Int64} {R : Nat → Nat → Option Nat} {x0 : Nat} {x4 : Int32} {x5 : Int64} {x8 : Int32} {x9 : Int32} {x10 : Int64}
    (h_x0 : At7 sh R x0)
    (t : (x9 ≤ x4 → (vp_in x8 111 ∧ ((x4 = x9 → (vp_in x8 111 ∧ (Q (sh, (up I (x0 + 8) x8.toNatClampNeg x9), (up J (x0 + 9) x8.toNatClampNeg (x5 + x10)), R) (none)))) ∧ (¬ x4 = x9 → (vp_in x8 111 ∧ (Q (sh, (up I (x0 + 8) x8.toNatClampNeg x9), (up J (x0 + 9) x8.toNatClampNeg x10), R) (none))))))) ∧ (¬ x9 ≤ x4 → (vp_in x8 111 ∧ (vp_in x8 111 ∧ (Q (sh, (up I (x0 + 8) x8.toNatClampNeg x4), (up J (x0 + 9) x8.toNatClampNeg x5), R) (none)))))) :
    rW γ l m_X7_weighDay 0 0 77 [some (.ref x0), none, none, none, some (.int x4), some (.long x5), none, none, some (.int x8), some (.int x9), some (.long x10), none] [] (sh, I, J, R) Q := by
  by_cases p0 : x9 ≤ x4
  · have t := t.1 p0
    obtain ⟨b2, t⟩ := t
    by_cases p1 : x4 = x9
    · have t := t.1 p1
      obtain ⟨b6, t⟩ := t
      exact ⟨_, _, b_X7_weighDay_77  h_x0 (fun _ => b2) (fun _ y1 => absurd p1 y1) (fun _ y1 => absurd p1 y1) (fun _ _ => b6) (fun _ _ => ⟨rfl, rfl⟩) (fun y0 => absurd p0 y0) (fun y0 => absurd p0 y0) (fun y0 => absurd p0 y0), t⟩
    · have t := t.2 p1
      obtain ⟨b4, t⟩ := t
      exact ⟨_, _, b_X7_weighDay_77  h_x0 (fun _ => b2) (fun _ _ => b4) (fun _ _ => ⟨rfl, rfl⟩) (fun _ y1 => absurd y1 p1) (fun _ y1 => absurd y1 p1) (fun y0 => absurd p0 y0) (fun y0 => absurd p0 y0) (fun y0 => absurd p0 y0), t⟩
  · have t := t.2 p0
    obtain ⟨b8, t⟩ := t
    obtain ⟨b9, t⟩ := t
    exact ⟨_, _, b_X7_weighDay_77  h_x0 (fun y0 => absurd y0 p0) (fun y0 _ => absurd y0 p0) (fun y0 _ => absurd y0 p0) (fun y0 _ => absurd y0 p0) (fun y0 _ => absurd y0 p0) (fun _ => b8) (fun _ => b9) (fun _ => ⟨rfl, rfl⟩), t⟩
abbrev s_X7_costFrom_0 (γ : rG) (l : Launch) (x0 : Nat) (x1 : Int32) (x2 : Int32) (x3 : Int32) (h : rHeap) (Q : rHeap → Option Value → Prop) : Prop := rW γ l m_X7_costFrom 0 0 0 [some (.ref x0), some (.int x1), some (.int x2), some (.int x3), none] [] h Q
theorem w_X7_costFrom_0 {γ : rG} {l : Launch} {Q : rHeap → Option Value → Prop} {sh : Nat × (Nat → Nat) × (Nat → Nat)} {I : Nat → Nat → Int32} {J : Nat → Nat → Int64} {R : Nat → Nat → Option Nat} {x0 : Nat} {x1 : Int32} {x2 : Int32} {x3 : Int32}
    (h_x0 : At7 sh R x0)
    (t : (x3 = x2 → (rW γ l m_X7_costFrom 0 0 30 [some (.ref x0), some (.int x1), none, some (.int x3), some (.int (0 : Int32))] [] (sh, I, J, R) Q)) ∧ (¬ x3 = x2 → ((x3 = (1 : Int32) → (vp_in x1 36 ∧ (rW γ l m_X7_costFrom 0 0 28 [some (.ref x0), some (.int x1), none, some (.int x3), none] [.int (I (x0 + 4) x1.toNatClampNeg)] (sh, I, J, R) Q))) ∧ (¬ x3 = (1 : Int32) → (vp_in x1 36 ∧ (rW γ l m_X7_costFrom 0 0 28 [some (.ref x0), some (.int x1), none, some (.int x3), none] [.int (I (x0 + 5) x1.toNatClampNeg)] (sh, I, J, R) Q)))))) :
    rW γ l m_X7_costFrom 0 0 0 [some (.ref x0), some (.int x1), some (.int x2), some (.int x3), none] [] (sh, I, J, R) Q := by
  by_cases p0 : x3 = x2
  · have t := t.1 p0
    obtain ⟨hf, r, t, q⟩ := t
    exact ⟨hf, r, b_X7_costFrom_0  h_x0 (fun _ => t) (fun y0 _ => absurd p0 y0) (fun y0 _ => absurd p0 y0) (fun y0 _ => absurd p0 y0) (fun y0 _ => absurd p0 y0), q⟩
  · have t := t.2 p0
    by_cases p1 : x3 = (1 : Int32)
    · have t := t.1 p1
      obtain ⟨b6, t⟩ := t
      obtain ⟨hf, r, t, q⟩ := t
      exact ⟨hf, r, b_X7_costFrom_0  h_x0 (fun y0 => absurd y0 p0) (fun _ y1 => absurd p1 y1) (fun _ y1 => absurd p1 y1) (fun _ _ => b6) (fun _ _ => t), q⟩
    · have t := t.2 p1
      obtain ⟨b4, t⟩ := t
      obtain ⟨hf, r, t, q⟩ := t
      exact ⟨hf, r, b_X7_costFrom_0  h_x0 (fun y0 => absurd y0 p0) (fun _ _ => b4) (fun _ _ => t) (fun _ y1 => absurd y1 p1) (fun _ y1 => absurd y1 p1), q⟩
abbrev s_X7_costFrom_30 (γ : rG) (l : Launch) (x0 : Nat) (x1 : Int32) (x3 : Int32) (x4 : Int32) (h : rHeap) (Q : rHeap → Option Value → Prop) : Prop := rW γ l m_X7_costFrom 0 0 30 [some (.ref x0), some (.int x1), none, some (.int x3), some (.int x4)] [] h Q
theorem w_X7_costFrom_30 {γ : rG} {l : Launch} {Q : rHeap → Option Value → Prop} {sh : Nat × (Nat → Nat) × (Nat → Nat)} {I : Nat → Nat → Int32} {J : Nat → Nat → Int64} {R : Nat → Nat → Option Nat} {x0 : Nat} {x1 : Int32} {x3 : Int32} {x4 : Int32}
    (h_x0 : At7 sh R x0)
    (t : vp_in ((((3 : Int32) * x1) + x3)) 108 ∧ (vp_in ((((3 : Int32) * (x1 + (1 : Int32))) + x3)) 111 ∧ (Q (sh, I, J, R) (some (.int (((x4 + (I (x0 + 7) ((((3 : Int32) * x1) + x3)).toNatClampNeg)) + (I (x0 + 8) ((((3 : Int32) * (x1 + (1 : Int32))) + x3)).toNatClampNeg)))))))) :
    rW γ l m_X7_costFrom 0 0 30 [some (.ref x0), some (.int x1), none, some (.int x3), some (.int x4)] [] (sh, I, J, R) Q := by
  obtain ⟨b1, t⟩ := t
  obtain ⟨b2, t⟩ := t
  exact ⟨_, _, b_X7_costFrom_30  h_x0 b1 b2 ⟨rfl, rfl⟩, t⟩
abbrev s_X7_costFrom_28 (γ : rG) (l : Launch) (x0 : Nat) (x1 : Int32) (x3 : Int32) (s0 : Int32) (h : rHeap) (Q : rHeap → Option Value → Prop) : Prop := rW γ l m_X7_costFrom 0 0 28 [some (.ref x0), some (.int x1), none, some (.int x3), none] [.int s0] h Q
theorem w_X7_costFrom_28 {γ : rG} {l : Launch} {Q : rHeap → Option Value → Prop} {sh : Nat × (Nat → Nat) × (Nat → Nat)} {I : Nat → Nat → Int32} {J : Nat → Nat → Int64} {R : Nat → Nat → Option Nat} {x0 : Nat} {x1 : Int32} {x3 : Int32} {s0 : Int32}
    (h_x0 : At7 sh R x0)
    (t : rW γ l m_X7_costFrom 0 0 30 [some (.ref x0), some (.int x1), none, some (.int x3), some (.int s0)] [] (sh, I, J, R) Q) :
    rW γ l m_X7_costFrom 0 0 28 [some (.ref x0), some (.int x1), none, some (.int x3), none] [.int s0] (sh, I, J, R) Q := by
  obtain ⟨hf, r, t, q⟩ := t
  exact ⟨hf, r, b_X7_costFrom_28  h_x0 t, q⟩
abbrev s_X7_leastCost_0 (γ : rG) (l : Launch) (x0 : Nat) (h : rHeap) (Q : rHeap → Option Value → Prop) : Prop := rW γ l m_X7_leastCost 0 0 0 [some (.ref x0)] [] h Q
theorem w_X7_leastCost_0 {γ : rG} {l : Launch} {Q : rHeap → Option Value → Prop} {sh : Nat × (Nat → Nat) × (Nat → Nat)} {I : Nat → Nat → Int32} {J : Nat → Nat → Int64} {R : Nat → Nat → Option Nat} {x0 : Nat}
    (h_x0 : At7 sh R x0)
    (t : vp_in (0 : Int32) 111 ∧ (Q (sh, I, J, R) (some (.int ((I (x0 + 8) (0 : Int32).toNatClampNeg)))))) :
    rW γ l m_X7_leastCost 0 0 0 [some (.ref x0)] [] (sh, I, J, R) Q := by
  obtain ⟨b1, t⟩ := t
  exact ⟨_, _, b_X7_leastCost_0  h_x0 b1 ⟨rfl, rfl⟩, t⟩
abbrev s_X7_howMany_0 (γ : rG) (l : Launch) (x0 : Nat) (h : rHeap) (Q : rHeap → Option Value → Prop) : Prop := rW γ l m_X7_howMany 0 0 0 [some (.ref x0)] [] h Q
theorem w_X7_howMany_0 {γ : rG} {l : Launch} {Q : rHeap → Option Value → Prop} {sh : Nat × (Nat → Nat) × (Nat → Nat)} {I : Nat → Nat → Int32} {J : Nat → Nat → Int64} {R : Nat → Nat → Option Nat} {x0 : Nat}
    (h_x0 : At7 sh R x0)
    (t : vp_in (0 : Int32) 111 ∧ (Q (sh, I, J, R) (some (.long ((J (x0 + 9) (0 : Int32).toNatClampNeg)))))) :
    rW γ l m_X7_howMany 0 0 0 [some (.ref x0)] [] (sh, I, J, R) Q := by
  obtain ⟨b1, t⟩ := t
  exact ⟨_, _, b_X7_howMany_0  h_x0 b1 ⟨rfl, rfl⟩, t⟩
abbrev s_X7_tell_0 (γ : rG) (l : Launch) (x0 : Nat) (h : rHeap) (Q : rHeap → Option Value → Prop) : Prop := rW γ l m_X7_tell 0 0 0 [some (.ref x0), none, none, none, none, none, none] [] h Q
theorem w_X7_tell_0 {γ : rG} {l : Launch} {Q : rHeap → Option Value → Prop} {sh : Nat × (Nat → Nat) × (Nat → Nat)} {I : Nat → Nat → Int32} {J : Nat → Nat → Int64} {R : Nat → Nat → Option Nat} {x0 : Nat}
    (h_x0 : At7 sh R x0)
    (t : rW γ l m_X7_tell 0 0 6 [some (.ref x0), some (.int (0 : Int32)), some (.int (0 : Int32)), some (.int (0 : Int32)), none, none, none] [] (sh, I, J, R) Q) :
    rW γ l m_X7_tell 0 0 0 [some (.ref x0), none, none, none, none, none, none] [] (sh, I, J, R) Q := by
  obtain ⟨hf, r, t, q⟩ := t
  exact ⟨hf, r, b_X7_tell_0  h_x0 t, q⟩
abbrev s_X7_tell_6 (γ : rG) (l : Launch) (x0 : Nat) (x1 : Int32) (x2 : Int32) (x3 : Int32) (h : rHeap) (Q : rHeap → Option Value → Prop) : Prop := rW γ l m_X7_tell 0 0 6 [some (.ref x0), some (.int x1), some (.int x2), some (.int x3), none, none, none] [] h Q
theorem w_X7_tell_6 {γ : rG} {l : Launch} {Q : rHeap → Option Value → Prop} {sh : Nat × (Nat → Nat) × (Nat → Nat)} {I : Nat → Nat → Int32} {J : Nat → Nat → Int64} {R : Nat → Nat → Option Nat} {x0 : Nat} {x1 : Int32} {x2 : Int32} {x3 : Int32}
    (h_x0 : At7 sh R x0)
    (t : ((I x0 1) ≤ x3 → ((x1 = 0 ∨ x1 = 1) ∧ (Q (sh, I, J, R) (some (.int x1))))) ∧ (¬ (I x0 1) ≤ x3 → ((x2 = (1 : Int32) → (rW γ l m_X7_tell 0 0 24 [some (.ref x0), some (.int x1), some (.int x2), some (.int x3), none, none, none] [.int (2 : Int32)] (sh, I, J, R) Q)) ∧ (¬ x2 = (1 : Int32) → (rW γ l m_X7_tell 0 0 24 [some (.ref x0), some (.int x1), some (.int x2), some (.int x3), none, none, none] [.int (1 : Int32)] (sh, I, J, R) Q))))) :
    rW γ l m_X7_tell 0 0 6 [some (.ref x0), some (.int x1), some (.int x2), some (.int x3), none, none, none] [] (sh, I, J, R) Q := by
  by_cases p0 : (I x0 1) ≤ x3
  · have t := t.1 p0
    obtain ⟨z3, t⟩ := t
    exact ⟨_, _, b_X7_tell_6  h_x0 (fun _ => ⟨rfl, rfl⟩) (fun _ => z3) (fun y0 _ => absurd p0 y0) (fun y0 _ => absurd p0 y0), t⟩
  · have t := t.2 p0
    by_cases p1 : x2 = (1 : Int32)
    · have t := t.1 p1
      obtain ⟨hf, r, t, q⟩ := t
      exact ⟨hf, r, b_X7_tell_6  h_x0 (fun y0 => absurd y0 p0) (fun y0 => absurd y0 p0) (fun _ y1 => absurd p1 y1) (fun _ _ => t), q⟩
    · have t := t.2 p1
      obtain ⟨hf, r, t, q⟩ := t
      exact ⟨hf, r, b_X7_tell_6  h_x0 (fun y0 => absurd y0 p0) (fun y0 => absurd y0 p0) (fun _ _ => t) (fun _ y1 => absurd y1 p1), q⟩
abbrev s_X7_tell_24 (γ : rG) (l : Launch) (x0 : Nat) (x1 : Int32) (x2 : Int32) (x3 : Int32) (s0 : Int32) (h : rHeap) (Q : rHeap → Option Value → Prop) : Prop := rW γ l m_X7_tell 0 0 24 [some (.ref x0), some (.int x1), some (.int x2), some (.int x3), none, none, none] [.int s0] h Q
theorem w_X7_tell_24 {γ : rG} {l : Launch} {Q : rHeap → Option Value → Prop} {sh : Nat × (Nat → Nat) × (Nat → Nat)} {I : Nat → Nat → Int32} {J : Nat → Nat → Int64} {R : Nat → Nat → Option Nat} {x0 : Nat} {x1 : Int32} {x2 : Int32} {x3 : Int32} {s0 : Int32}
    (h_x0 : At7 sh R x0)
    (t : ∃ (v2 : Int32), rMet γ l m_X7_costFrom [.ref x0, .int x3, .int x2, .int (if s0 < x2 then s0 else x2)] (sh, I, J, R) (sh, I, J, R) (some (.int v2)) ∧ (vp_in ((((3 : Int32) * x3) + x2)) 111 ∧ ((v2 = (I (x0 + 8) ((((3 : Int32) * x3) + x2)).toNatClampNeg) → (rW γ l m_X7_tell 0 0 67 [some (.ref x0), some (.int x1), none, some (.int x3), none, none, none] [.int (if s0 < x2 then s0 else x2)] (sh, I, J, R) Q)) ∧ (¬ v2 = (I (x0 + 8) ((((3 : Int32) * x3) + x2)).toNatClampNeg) → (rW γ l m_X7_tell 0 0 67 [some (.ref x0), some (.int x1), none, some (.int x3), none, none, none] [.int ((x2 + s0) - (if s0 < x2 then s0 else x2))] (sh, I, J, R) Q))))) :
    rW γ l m_X7_tell 0 0 24 [some (.ref x0), some (.int x1), some (.int x2), some (.int x3), none, none, none] [.int s0] (sh, I, J, R) Q := by
  obtain ⟨v2, m1, t⟩ := t
  obtain ⟨b3, t⟩ := t
  by_cases p0 : v2 = (I (x0 + 8) ((((3 : Int32) * x3) + x2)).toNatClampNeg)
  · have t := t.1 p0
    obtain ⟨hf, r, t, q⟩ := t
    exact ⟨hf, r, b_X7_tell_24  h_x0 m1 b3 (fun y0 => absurd p0 y0) (fun _ => t), q⟩
  · have t := t.2 p0
    obtain ⟨hf, r, t, q⟩ := t
    exact ⟨hf, r, b_X7_tell_24  h_x0 m1 b3 (fun _ => t) (fun y0 => absurd y0 p0), q⟩
abbrev s_X7_tell_67 (γ : rG) (l : Launch) (x0 : Nat) (x1 : Int32) (x3 : Int32) (s0 : Int32) (h : rHeap) (Q : rHeap → Option Value → Prop) : Prop := rW γ l m_X7_tell 0 0 67 [some (.ref x0), some (.int x1), none, some (.int x3), none, none, none] [.int s0] h Q
theorem w_X7_tell_67 {γ : rG} {l : Launch} {Q : rHeap → Option Value → Prop} {sh : Nat × (Nat → Nat) × (Nat → Nat)} {I : Nat → Nat → Int32} {J : Nat → Nat → Int64} {R : Nat → Nat → Option Nat} {x0 : Nat} {x1 : Int32} {x3 : Int32} {s0 : Int32}
    (h_x0 : At7 sh R x0)
    (t : vp_in x3 36 ∧ (((I (x0 + 10) x3.toNatClampNeg) = s0 → (vp_in x3 36 ∧ (rW γ l m_X7_tell 0 0 6 [some (.ref x0), some (.int (x1 ||| (0 : Int32))), some (.int s0), some (.int (x3 + (1 : Int32))), none, none, none] [] (sh, (up I (x0 + 10) x3.toNatClampNeg s0), J, R) Q))) ∧ (¬ (I (x0 + 10) x3.toNatClampNeg) = s0 → (vp_in x3 36 ∧ (rW γ l m_X7_tell 0 0 6 [some (.ref x0), some (.int (x1 ||| (1 : Int32))), some (.int s0), some (.int (x3 + (1 : Int32))), none, none, none] [] (sh, (up I (x0 + 10) x3.toNatClampNeg s0), J, R) Q))))) :
    rW γ l m_X7_tell 0 0 67 [some (.ref x0), some (.int x1), none, some (.int x3), none, none, none] [.int s0] (sh, I, J, R) Q := by
  obtain ⟨b1, t⟩ := t
  by_cases p0 : (I (x0 + 10) x3.toNatClampNeg) = s0
  · have t := t.1 p0
    obtain ⟨b3, t⟩ := t
    obtain ⟨hf, r, t, q⟩ := t
    exact ⟨hf, r, b_X7_tell_67  h_x0 b1 (fun _ => b3) (fun _ => t) (fun y0 => absurd p0 y0) (fun y0 => absurd p0 y0), q⟩
  · have t := t.2 p0
    obtain ⟨b5, t⟩ := t
    obtain ⟨hf, r, t, q⟩ := t
    exact ⟨hf, r, b_X7_tell_67  h_x0 b1 (fun y0 => absurd y0 p0) (fun y0 => absurd y0 p0) (fun _ => b5) (fun _ => t), q⟩
abbrev s_X7_guiltOf_0 (γ : rG) (l : Launch) (x0 : Nat) (x1 : Int32) (h : rHeap) (Q : rHeap → Option Value → Prop) : Prop := rW γ l m_X7_guiltOf 0 0 0 [some (.ref x0), some (.int x1), none, none, none, none, none] [] h Q
theorem w_X7_guiltOf_0 {γ : rG} {l : Launch} {Q : rHeap → Option Value → Prop} {sh : Nat × (Nat → Nat) × (Nat → Nat)} {I : Nat → Nat → Int32} {J : Nat → Nat → Int64} {R : Nat → Nat → Option Nat} {x0 : Nat} {x1 : Int32}
    (h_x0 : At7 sh R x0)
    (t : ∃ (I1 : Nat → Nat → Int32) (J2 : Nat → Nat → Int64), rMet γ l m_X7_weigh [.ref x0, .int (-1 : Int32)] (sh, I, J, R) (sh, I1, J2, R) none ∧ (∃ (v5 : Int32), rMet γ l m_X7_leastCost [.ref x0] (sh, I1, J2, R) (sh, I1, J2, R) (some (.int v5)) ∧ (∃ (v7 : Int64), rMet γ l m_X7_howMany [.ref x0] (sh, I1, J2, R) (sh, I1, J2, R) (some (.long v7)) ∧ (∃ (I8 : Nat → Nat → Int32) (J9 : Nat → Nat → Int64), rMet γ l m_X7_weigh [.ref x0, .int x1] (sh, I1, J2, R) (sh, I8, J9, R) none ∧ (∃ (v12 : Int32), rMet γ l m_X7_leastCost [.ref x0] (sh, I8, J9, R) (sh, I8, J9, R) (some (.int v12)) ∧ ((v12 = v5 → (∃ (v16 : Int64), rMet γ l m_X7_howMany [.ref x0] (sh, I8, J9, R) (sh, I8, J9, R) (some (.long v16)) ∧ (rW γ l m_X7_guiltOf 0 0 36 [none, none, none, some (.long v7), none, none, none] [.long v16] (sh, I8, J9, R) Q))) ∧ (¬ v12 = v5 → (rW γ l m_X7_guiltOf 0 0 36 [none, none, none, some (.long v7), none, none, none] [.long (0 : Int64)] (sh, I8, J9, R) Q)))))))) :
    rW γ l m_X7_guiltOf 0 0 0 [some (.ref x0), some (.int x1), none, none, none, none, none] [] (sh, I, J, R) Q := by
  obtain ⟨I1, J2, m3, t⟩ := t
  obtain ⟨v5, m4, t⟩ := t
  obtain ⟨v7, m6, t⟩ := t
  obtain ⟨I8, J9, m10, t⟩ := t
  obtain ⟨v12, m11, t⟩ := t
  by_cases p0 : v12 = v5
  · have t := t.1 p0
    obtain ⟨v16, m15, t⟩ := t
    obtain ⟨hf, r, t, q⟩ := t
    exact ⟨hf, r, b_X7_guiltOf_0  h_x0 m3 m4 m6 m10 m11 (fun y0 => absurd p0 y0) (fun _ => m15) (fun _ => t), q⟩
  · have t := t.2 p0
    obtain ⟨hf, r, t, q⟩ := t
    exact ⟨hf, r, b_X7_guiltOf_0 (v16 := 0) h_x0 m3 m4 m6 m10 m11 (fun _ => t) (fun y0 => absurd y0 p0) (fun y0 => absurd y0 p0), q⟩
abbrev s_X7_guiltOf_36 (γ : rG) (l : Launch) (x3 : Int64) (s0 : Int64) (h : rHeap) (Q : rHeap → Option Value → Prop) : Prop := rW γ l m_X7_guiltOf 0 0 36 [none, none, none, some (.long x3), none, none, none] [.long s0] h Q
theorem w_X7_guiltOf_36 {γ : rG} {l : Launch} {Q : rHeap → Option Value → Prop} {sh : Nat × (Nat → Nat) × (Nat → Nat)} {I : Nat → Nat → Int32} {J : Nat → Nat → Int64} {R : Nat → Nat → Option Nat} {x3 : Int64} {s0 : Int64}
    (t : ((lg_cmp s0 (0 : Int64)) = 0 → (Q (sh, I, J, R) (some (.int (1 : Int32))))) ∧ (¬ (lg_cmp s0 (0 : Int64)) = 0 → (((lg_cmp s0 x3) = 0 → (Q (sh, I, J, R) (some (.int (0 : Int32))))) ∧ (¬ (lg_cmp s0 x3) = 0 → (Q (sh, I, J, R) (some (.int (2 : Int32)))))))) :
    rW γ l m_X7_guiltOf 0 0 36 [none, none, none, some (.long x3), none, none, none] [.long s0] (sh, I, J, R) Q := by
  by_cases p0 : (lg_cmp s0 (0 : Int64)) = 0
  · have t := t.1 p0
    exact ⟨_, _, b_X7_guiltOf_36  (fun y0 _ => absurd p0 y0) (fun y0 _ => absurd p0 y0) (fun _ => ⟨rfl, rfl⟩), t⟩
  · have t := t.2 p0
    by_cases p1 : (lg_cmp s0 x3) = 0
    · have t := t.1 p1
      exact ⟨_, _, b_X7_guiltOf_36  (fun _ y1 => absurd p1 y1) (fun _ _ => ⟨rfl, rfl⟩) (fun y0 => absurd y0 p0), t⟩
    · have t := t.2 p1
      exact ⟨_, _, b_X7_guiltOf_36  (fun _ _ => ⟨rfl, rfl⟩) (fun _ y1 => absurd y1 p1) (fun y0 => absurd y0 p0), t⟩
abbrev s_X7_firstTurn_0 (γ : rG) (l : Launch) (x0 : Nat) (x1 : Int32) (h : rHeap) (Q : rHeap → Option Value → Prop) : Prop := rW γ l m_X7_firstTurn 0 0 0 [some (.ref x0), some (.int x1), none] [] h Q
theorem w_X7_firstTurn_0 {γ : rG} {l : Launch} {Q : rHeap → Option Value → Prop} {sh : Nat × (Nat → Nat) × (Nat → Nat)} {I : Nat → Nat → Int32} {J : Nat → Nat → Int64} {R : Nat → Nat → Option Nat} {x0 : Nat} {x1 : Int32}
    (h_x0 : At7 sh R x0)
    (t : ∃ (I1 : Nat → Nat → Int32) (J2 : Nat → Nat → Int64), rMet γ l m_X7_weigh [.ref x0, .int (-1 : Int32)] (sh, I, J, R) (sh, I1, J2, R) none ∧ (∃ (I4 : Nat → Nat → Int32) (v6 : Int32), rMet γ l m_X7_tell [.ref x0] (sh, I1, J2, R) (sh, I4, J2, R) (some (.int v6)) ∧ (rW γ l m_X7_firstTurn 0 0 12 [some (.ref x0), none, some (.int x1)] [] (sh, I4, J2, R) Q))) :
    rW γ l m_X7_firstTurn 0 0 0 [some (.ref x0), some (.int x1), none] [] (sh, I, J, R) Q := by
  obtain ⟨I1, J2, m3, t⟩ := t
  obtain ⟨I4, v6, m5, t⟩ := t
  obtain ⟨hf, r, t, q⟩ := t
  exact ⟨hf, r, b_X7_firstTurn_0  h_x0 m3 m5 t, q⟩
abbrev s_X7_firstTurn_12 (γ : rG) (l : Launch) (x0 : Nat) (x2 : Int32) (h : rHeap) (Q : rHeap → Option Value → Prop) : Prop := rW γ l m_X7_firstTurn 0 0 12 [some (.ref x0), none, some (.int x2)] [] h Q
theorem w_X7_firstTurn_12 {γ : rG} {l : Launch} {Q : rHeap → Option Value → Prop} {sh : Nat × (Nat → Nat) × (Nat → Nat)} {I : Nat → Nat → Int32} {J : Nat → Nat → Int64} {R : Nat → Nat → Option Nat} {x0 : Nat} {x2 : Int32}
    (h_x0 : At7 sh R x0)
    (t : ((I x0 2) ≤ x2 → (Q (sh, I, J, R) (some (.int (-1 : Int32))))) ∧ (¬ (I x0 2) ≤ x2 → (∃ (I3 : Nat → Nat → Int32), rMet γ l m_X7_addDoubt [.ref x0, .int x2] (sh, I, J, R) (sh, I3, J, R) none ∧ (∃ (I5 : Nat → Nat → Int32) (J6 : Nat → Nat → Int64), rMet γ l m_X7_weigh [.ref x0, .int (-1 : Int32)] (sh, I3, J, R) (sh, I5, J6, R) none ∧ (∃ (I8 : Nat → Nat → Int32) (v10 : Int32), rMet γ l m_X7_tell [.ref x0] (sh, I5, J6, R) (sh, I8, J6, R) (some (.int v10)) ∧ ((v10 = 0 → (rW γ l m_X7_firstTurn 0 0 12 [some (.ref x0), none, some (.int (x2 + (1 : Int32)))] [] (sh, I8, J6, R) Q)) ∧ (¬ v10 = 0 → (Q (sh, I8, J6, R) (some (.int x2)))))))))) :
    rW γ l m_X7_firstTurn 0 0 12 [some (.ref x0), none, some (.int x2)] [] (sh, I, J, R) Q := by
  by_cases p0 : (I x0 2) ≤ x2
  · have t := t.1 p0
    exact ⟨_, _, b_X7_firstTurn_12 (I3 := I) (I5 := I) (J6 := J) (I8 := I) (v10 := 0) h_x0 (fun _ => ⟨rfl, rfl⟩) (fun y0 => absurd p0 y0) (fun y0 => absurd p0 y0) (fun y0 => absurd p0 y0) (fun y0 _ => absurd p0 y0) (fun y0 _ => absurd p0 y0), t⟩
  · have t := t.2 p0
    obtain ⟨I3, m4, t⟩ := t
    obtain ⟨I5, J6, m7, t⟩ := t
    obtain ⟨I8, v10, m9, t⟩ := t
    by_cases p1 : v10 = 0
    · have t := t.1 p1
      obtain ⟨hf, r, t, q⟩ := t
      exact ⟨hf, r, b_X7_firstTurn_12  h_x0 (fun y0 => absurd y0 p0) (fun _ => m4) (fun _ => m7) (fun _ => m9) (fun _ _ => t) (fun _ y1 => absurd p1 y1), q⟩
    · have t := t.2 p1
      exact ⟨_, _, b_X7_firstTurn_12  h_x0 (fun y0 => absurd y0 p0) (fun _ => m4) (fun _ => m7) (fun _ => m9) (fun _ y1 => absurd y1 p1) (fun _ _ => ⟨rfl, rfl⟩), t⟩
