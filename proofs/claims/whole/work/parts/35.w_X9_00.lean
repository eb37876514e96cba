abbrev s_X9_feed_0 (γ : rG) (l : Launch) (x0 : Nat) (x1 : Int32) (x2 : Int32) (x3 : Int32) (x4 : Int32) (x5 : Int32) (h : rHeap) (Q : rHeap → Option Value → Prop) : Prop := rW γ l m_X9_feed 0 0 0 [some (.ref x0), some (.int x1), some (.int x2), some (.int x3), some (.int x4), some (.int x5)] [] h Q
theorem w_X9_feed_0 {γ : rG} {l : Launch} {Q : rHeap → Option Value → Prop} {sh : Nat × (Nat → Nat) × (Nat → Nat)} {I : Nat → Nat → Int32} {J : Nat → Nat → Int64} {R : Nat → Nat → Option Nat} {x0 : Nat} {x1 : Int32} {x2 : Int32} {x3 : Int32} {x4 : Int32} {x5 : Int32}
    (h_x0 : At9 sh R x0)
    (t : (((I x0 2) + (20 : Int32)) ≤ (2000 : Int32) → (∃ (I2 : Nat → Nat → Int32), rMet γ l m_X9_put [.ref x0, .int x1] (sh, I, J, R) (sh, I2, J, R) none ∧ (∃ (I4 : Nat → Nat → Int32), rMet γ l m_X9_put [.ref x0, .int x2] (sh, I2, J, R) (sh, I4, J, R) none ∧ (∃ (I6 : Nat → Nat → Int32), rMet γ l m_X9_put [.ref x0, .int x3] (sh, I4, J, R) (sh, I6, J, R) none ∧ (∃ (I8 : Nat → Nat → Int32), rMet γ l m_X9_put [.ref x0, .int x4] (sh, I6, J, R) (sh, I8, J, R) none ∧ (∃ (I10 : Nat → Nat → Int32), rMet γ l m_X9_put [.ref x0, .int x5] (sh, I8, J, R) (sh, I10, J, R) none ∧ (Q (sh, I10, J, R) (some (.int (I10 x0 2)))))))))) ∧ (¬ ((I x0 2) + (20 : Int32)) ≤ (2000 : Int32) → (Q (sh, I, J, R) (some (.int (-1 : Int32)))))) :
    rW γ l m_X9_feed 0 0 0 [some (.ref x0), some (.int x1), some (.int x2), some (.int x3), some (.int x4), some (.int x5)] [] (sh, I, J, R) Q := by
  by_cases p0 : ((I x0 2) + (20 : Int32)) ≤ (2000 : Int32)
  · have t := t.1 p0
    obtain ⟨I2, m3, t⟩ := t
    obtain ⟨I4, m5, t⟩ := t
    obtain ⟨I6, m7, t⟩ := t
    obtain ⟨I8, m9, t⟩ := t
    obtain ⟨I10, m11, t⟩ := t
    exact ⟨_, _, b_X9_feed_0  h_x0 (fun _ => m3) (fun _ => m5) (fun _ => m7) (fun _ => m9) (fun _ => m11) (fun _ => ⟨rfl, rfl⟩) (fun y0 => absurd p0 y0), t⟩
  · have t := t.2 p0
    exact ⟨_, _, b_X9_feed_0 (I2 := I) (I4 := I) (I6 := I) (I8 := I) (I10 := I) h_x0 (fun y0 => absurd y0 p0) (fun y0 => absurd y0 p0) (fun y0 => absurd y0 p0) (fun y0 => absurd y0 p0) (fun y0 => absurd y0 p0) (fun y0 => absurd y0 p0) (fun _ => ⟨rfl, rfl⟩), t⟩
abbrev s_X9_put_0 (γ : rG) (l : Launch) (x0 : Nat) (x1 : Int32) (h : rHeap) (Q : rHeap → Option Value → Prop) : Prop := rW γ l m_X9_put 0 0 0 [some (.ref x0), some (.int x1), none] [] h Q
theorem w_X9_put_0 {γ : rG} {l : Launch} {Q : rHeap → Option Value → Prop} {sh : Nat × (Nat → Nat) × (Nat → Nat)} {I : Nat → Nat → Int32} {J : Nat → Nat → Int64} {R : Nat → Nat → Option Nat} {x0 : Nat} {x1 : Int32}
    (h_x0 : At9 sh R x0)
    (t : rW γ l m_X9_put 0 0 3 [some (.ref x0), some (.int x1), some (.int (24 : Int32))] [] (sh, I, J, R) Q) :
    rW γ l m_X9_put 0 0 0 [some (.ref x0), some (.int x1), none] [] (sh, I, J, R) Q := by
  obtain ⟨hf, r, t, q⟩ := t
  exact ⟨hf, r, b_X9_put_0  h_x0 t, q⟩
abbrev s_X9_put_3 (γ : rG) (l : Launch) (x0 : Nat) (x1 : Int32) (x2 : Int32) (h : rHeap) (Q : rHeap → Option Value → Prop) : Prop := rW γ l m_X9_put 0 0 3 [some (.ref x0), some (.int x1), some (.int x2)] [] h Q
theorem w_X9_put_3 {γ : rG} {l : Launch} {Q : rHeap → Option Value → Prop} {sh : Nat × (Nat → Nat) × (Nat → Nat)} {I : Nat → Nat → Int32} {J : Nat → Nat → Int64} {R : Nat → Nat → Option Nat} {x0 : Nat} {x1 : Int32} {x2 : Int32}
    (h_x0 : At9 sh R x0)
    (t : (x2 < 0 → (Q (sh, I, J, R) (none))) ∧ (¬ x2 < 0 → (vp_in (I x0 2) 2000 ∧ (rW γ l m_X9_put 0 0 3 [some (.ref x0), some (.int x1), some (.int (x2 + (-8 : Int32)))] [] (sh, (up (up I (x0 + 1) (I x0 2).toNatClampNeg (vp_nar .byte (((x1 >>> (x2 &&& 31))).toInt8.toInt32))) x0 2 ((((up I (x0 + 1) (I x0 2).toNatClampNeg (vp_nar .byte (((x1 >>> (x2 &&& 31))).toInt8.toInt32))) x0 2) + (1 : Int32)))), J, R) Q)))) :
    rW γ l m_X9_put 0 0 3 [some (.ref x0), some (.int x1), some (.int x2)] [] (sh, I, J, R) Q := by
  by_cases p0 : x2 < 0
  · have t := t.1 p0
    exact ⟨_, _, b_X9_put_3  h_x0 (fun _ => ⟨rfl, rfl⟩) (fun y0 => absurd p0 y0) (fun y0 => absurd p0 y0), t⟩
  · have t := t.2 p0
    obtain ⟨b3, t⟩ := t
    obtain ⟨hf, r, t, q⟩ := t
    exact ⟨hf, r, b_X9_put_3  h_x0 (fun y0 => absurd y0 p0) (fun _ => b3) (fun _ => t), q⟩
abbrev s_X9_back_0 (γ : rG) (l : Launch) (x0 : Nat) (x1 : Int32) (h : rHeap) (Q : rHeap → Option Value → Prop) : Prop := rW γ l m_X9_back 0 0 0 [some (.ref x0), some (.int x1)] [] h Q
theorem w_X9_back_0 {γ : rG} {l : Launch} {Q : rHeap → Option Value → Prop} {sh : Nat × (Nat → Nat) × (Nat → Nat)} {I : Nat → Nat → Int32} {J : Nat → Nat → Int64} {R : Nat → Nat → Option Nat} {x0 : Nat} {x1 : Int32}
    (h_x0 : At9 sh R x0)
    (t : (x1 < 0 → (Q (sh, I, J, R) (some (.int (-1 : Int32))))) ∧ (¬ x1 < 0 → ((x1 ≤ (I x0 2) → (Q (sh, (up I x0 2 (((I x0 2) - x1))), J, R) (some (.int (((up I x0 2 (((I x0 2) - x1))) x0 2)))))) ∧ (¬ x1 ≤ (I x0 2) → (Q (sh, I, J, R) (some (.int (-1 : Int32)))))))) :
    rW γ l m_X9_back 0 0 0 [some (.ref x0), some (.int x1)] [] (sh, I, J, R) Q := by
  by_cases p0 : x1 < 0
  · have t := t.1 p0
    exact ⟨_, _, b_X9_back_0  h_x0 (fun _ => ⟨rfl, rfl⟩) (fun y0 _ => absurd p0 y0) (fun y0 _ => absurd p0 y0), t⟩
  · have t := t.2 p0
    by_cases p1 : x1 ≤ (I x0 2)
    · have t := t.1 p1
      exact ⟨_, _, b_X9_back_0  h_x0 (fun y0 => absurd y0 p0) (fun _ _ => ⟨rfl, rfl⟩) (fun _ y1 => absurd p1 y1), t⟩
    · have t := t.2 p1
      exact ⟨_, _, b_X9_back_0  h_x0 (fun y0 => absurd y0 p0) (fun _ y1 => absurd y1 p1) (fun _ _ => ⟨rfl, rfl⟩), t⟩
abbrev s_X9_byteAt_0 (γ : rG) (l : Launch) (x0 : Nat) (x1 : Int32) (h : rHeap) (Q : rHeap → Option Value → Prop) : Prop := rW γ l m_X9_byteAt 0 0 0 [some (.ref x0), some (.int x1)] [] h Q
theorem w_X9_byteAt_0 {γ : rG} {l : Launch} {Q : rHeap → Option Value → Prop} {sh : Nat × (Nat → Nat) × (Nat → Nat)} {I : Nat → Nat → Int32} {J : Nat → Nat → Int64} {R : Nat → Nat → Option Nat} {x0 : Nat} {x1 : Int32}
    (h_x0 : At9 sh R x0)
    (t : ((I x0 4) ≤ x1 → (Q (sh, I, J, R) (some (.int (0 : Int32))))) ∧ (¬ (I x0 4) ≤ x1 → (vp_in x1 2000 ∧ (Q (sh, I, J, R) (some (.int (((I (x0 + 2) x1.toNatClampNeg) &&& (255 : Int32))))))))) :
    rW γ l m_X9_byteAt 0 0 0 [some (.ref x0), some (.int x1)] [] (sh, I, J, R) Q := by
  by_cases p0 : (I x0 4) ≤ x1
  · have t := t.1 p0
    exact ⟨_, _, b_X9_byteAt_0  h_x0 (fun _ => ⟨rfl, rfl⟩) (fun y0 => absurd p0 y0) (fun y0 => absurd p0 y0), t⟩
  · have t := t.2 p0
    obtain ⟨b3, t⟩ := t
    exact ⟨_, _, b_X9_byteAt_0  h_x0 (fun y0 => absurd y0 p0) (fun _ => b3) (fun _ => ⟨rfl, rfl⟩), t⟩
abbrev s_X9_isDigit_0 (γ : rG) (l : Launch) (x0 : Int32) (h : rHeap) (Q : rHeap → Option Value → Prop) : Prop := rW γ l m_X9_isDigit 0 0 0 [some (.int x0)] [] h Q
theorem w_X9_isDigit_0 {γ : rG} {l : Launch} {Q : rHeap → Option Value → Prop} {sh : Nat × (Nat → Nat) × (Nat → Nat)} {I : Nat → Nat → Int32} {J : Nat → Nat → Int64} {R : Nat → Nat → Option Nat} {x0 : Int32}
    (t : (x0 < (48 : Int32) → (Q (sh, I, J, R) (some (.int (0 : Int32))))) ∧ (¬ x0 < (48 : Int32) → (((57 : Int32) < x0 → (Q (sh, I, J, R) (some (.int (0 : Int32))))) ∧ (¬ (57 : Int32) < x0 → (Q (sh, I, J, R) (some (.int (1 : Int32)))))))) :
    rW γ l m_X9_isDigit 0 0 0 [some (.int x0)] [] (sh, I, J, R) Q := by
  by_cases p0 : x0 < (48 : Int32)
  · have t := t.1 p0
    exact ⟨_, _, b_X9_isDigit_0  (fun _ => ⟨rfl, rfl⟩) (fun y0 _ => absurd p0 y0) (fun y0 _ => absurd p0 y0), t⟩
  · have t := t.2 p0
    by_cases p1 : (57 : Int32) < x0
    · have t := t.1 p1
      exact ⟨_, _, b_X9_isDigit_0  (fun y0 => absurd y0 p0) (fun _ _ => ⟨rfl, rfl⟩) (fun _ y1 => absurd p1 y1), t⟩
    · have t := t.2 p1
      exact ⟨_, _, b_X9_isDigit_0  (fun y0 => absurd y0 p0) (fun _ y1 => absurd y1 p1) (fun _ _ => ⟨rfl, rfl⟩), t⟩
abbrev s_X9_isLetter_0 (γ : rG) (l : Launch) (x0 : Int32) (h : rHeap) (Q : rHeap → Option Value → Prop) : Prop := rW γ l m_X9_isLetter 0 0 0 [some (.int x0)] [] h Q
theorem w_X9_isLetter_0 {γ : rG} {l : Launch} {Q : rHeap → Option Value → Prop} {sh : Nat × (Nat → Nat) × (Nat → Nat)} {I : Nat → Nat → Int32} {J : Nat → Nat → Int64} {R : Nat → Nat → Option Nat} {x0 : Int32}
    (t : (x0 < (97 : Int32) → (Q (sh, I, J, R) (some (.int (0 : Int32))))) ∧ (¬ x0 < (97 : Int32) → (((122 : Int32) < x0 → (Q (sh, I, J, R) (some (.int (0 : Int32))))) ∧ (¬ (122 : Int32) < x0 → (Q (sh, I, J, R) (some (.int (1 : Int32)))))))) :
    rW γ l m_X9_isLetter 0 0 0 [some (.int x0)] [] (sh, I, J, R) Q := by
  by_cases p0 : x0 < (97 : Int32)
  · have t := t.1 p0
    exact ⟨_, _, b_X9_isLetter_0  (fun _ => ⟨rfl, rfl⟩) (fun y0 _ => absurd p0 y0) (fun y0 _ => absurd p0 y0), t⟩
  · have t := t.2 p0
    by_cases p1 : (122 : Int32) < x0
    · have t := t.1 p1
      exact ⟨_, _, b_X9_isLetter_0  (fun y0 => absurd y0 p0) (fun _ _ => ⟨rfl, rfl⟩) (fun _ y1 => absurd p1 y1), t⟩
    · have t := t.2 p1
      exact ⟨_, _, b_X9_isLetter_0  (fun y0 => absurd y0 p0) (fun _ y1 => absurd y1 p1) (fun _ _ => ⟨rfl, rfl⟩), t⟩
abbrev s_X9_more_0 (γ : rG) (l : Launch) (x0 : Int64) (x2 : Int32) (h : rHeap) (Q : rHeap → Option Value → Prop) : Prop := rW γ l m_X9_more 0 0 0 [some (.long x0), none, some (.int x2)] [] h Q
theorem w_X9_more_0 {γ : rG} {l : Launch} {Q : rHeap → Option Value → Prop} {sh : Nat × (Nat → Nat) × (Nat → Nat)} {I : Nat → Nat → Int32} {J : Nat → Nat → Int64} {R : Nat → Nat → Option Nat} {x0 : Int64} {x2 : Int32}
    (t : (x2 = 0 → (Q (sh, I, J, R) (some (.long x0)))) ∧ (¬ x2 = 0 → (Q (sh, I, J, R) (some (.long ((((27 : Int64) * x0) + (((x2 - (97 : Int32)) + (1 : Int32))).toInt64))))))) :
    rW γ l m_X9_more 0 0 0 [some (.long x0), none, some (.int x2)] [] (sh, I, J, R) Q := by
  by_cases p0 : x2 = 0
  · have t := t.1 p0
    exact ⟨_, _, b_X9_more_0  (fun y0 => absurd p0 y0) (fun _ => ⟨rfl, rfl⟩), t⟩
  · have t := t.2 p0
    exact ⟨_, _, b_X9_more_0  (fun _ => ⟨rfl, rfl⟩) (fun y0 => absurd y0 p0), t⟩
abbrev s_X9_word_0 (γ : rG) (l : Launch) (x0 : Int32) (x1 : Int32) (x2 : Int32) (x3 : Int32) (x4 : Int32) (x5 : Int32) (x6 : Int32) (h : rHeap) (Q : rHeap → Option Value → Prop) : Prop := rW γ l m_X9_word 0 0 0 [some (.int x0), some (.int x1), some (.int x2), some (.int x3), some (.int x4), some (.int x5), some (.int x6)] [] h Q
theorem w_X9_word_0 {γ : rG} {l : Launch} {Q : rHeap → Option Value → Prop} {sh : Nat × (Nat → Nat) × (Nat → Nat)} {I : Nat → Nat → Int32} {J : Nat → Nat → Int64} {R : Nat → Nat → Option Nat} {x0 : Int32} {x1 : Int32} {x2 : Int32} {x3 : Int32} {x4 : Int32} {x5 : Int32} {x6 : Int32}
    (t : ∃ (v2 : Int64), rMet γ l m_X9_more [.long (0 : Int64), .int x0] (sh, I, J, R) (sh, I, J, R) (some (.long v2)) ∧ (∃ (v4 : Int64), rMet γ l m_X9_more [.long v2, .int x1] (sh, I, J, R) (sh, I, J, R) (some (.long v4)) ∧ (∃ (v6 : Int64), rMet γ l m_X9_more [.long v4, .int x2] (sh, I, J, R) (sh, I, J, R) (some (.long v6)) ∧ (∃ (v8 : Int64), rMet γ l m_X9_more [.long v6, .int x3] (sh, I, J, R) (sh, I, J, R) (some (.long v8)) ∧ (∃ (v10 : Int64), rMet γ l m_X9_more [.long v8, .int x4] (sh, I, J, R) (sh, I, J, R) (some (.long v10)) ∧ (∃ (v12 : Int64), rMet γ l m_X9_more [.long v10, .int x5] (sh, I, J, R) (sh, I, J, R) (some (.long v12)) ∧ (∃ (v14 : Int64), rMet γ l m_X9_more [.long v12, .int x6] (sh, I, J, R) (sh, I, J, R) (some (.long v14)) ∧ (Q (sh, I, J, R) (some (.long v14)))))))))) :
    rW γ l m_X9_word 0 0 0 [some (.int x0), some (.int x1), some (.int x2), some (.int x3), some (.int x4), some (.int x5), some (.int x6)] [] (sh, I, J, R) Q := by
  obtain ⟨v2, m1, t⟩ := t
  obtain ⟨v4, m3, t⟩ := t
  obtain ⟨v6, m5, t⟩ := t
  obtain ⟨v8, m7, t⟩ := t
  obtain ⟨v10, m9, t⟩ := t
  obtain ⟨v12, m11, t⟩ := t
  obtain ⟨v14, m13, t⟩ := t
  exact ⟨_, _, b_X9_word_0  m1 m3 m5 m7 m9 m11 m13 ⟨rfl, rfl⟩, t⟩
abbrev s_X9_tokenIs_0 (γ : rG) (l : Launch) (x0 : Nat) (x1 : Int32) (x2 : Int32) (x3 : Int32) (x4 : Int64) (h : rHeap) (Q : rHeap → Option Value → Prop) : Prop := rW γ l m_X9_tokenIs 0 0 0 [some (.ref x0), some (.int x1), some (.int x2), some (.int x3), some (.long x4), none] [] h Q
theorem w_X9_tokenIs_0 {γ : rG} {l : Launch} {Q : rHeap → Option Value → Prop} {sh : Nat × (Nat → Nat) × (Nat → Nat)} {I : Nat → Nat → Int32} {J : Nat → Nat → Int64} {R : Nat → Nat → Option Nat} {x0 : Nat} {x1 : Int32} {x2 : Int32} {x3 : Int32} {x4 : Int64}
    (h_x0 : At9 sh R x0)
    (t : vp_in (I x0 10) 403 ∧ (vp_in (((up I (x0 + 3) (I x0 10).toNatClampNeg x1) x0 10)) 403 ∧ (vp_in (((up (up I (x0 + 3) (I x0 10).toNatClampNeg x1) (x0 + 4) (((up I (x0 + 3) (I x0 10).toNatClampNeg x1) x0 10)).toNatClampNeg x2) x0 10)) 403 ∧ (vp_in (((up (up (up I (x0 + 3) (I x0 10).toNatClampNeg x1) (x0 + 4) (((up I (x0 + 3) (I x0 10).toNatClampNeg x1) x0 10)).toNatClampNeg x2) (x0 + 5) (((up (up I (x0 + 3) (I x0 10).toNatClampNeg x1) (x0 + 4) (((up I (x0 + 3) (I x0 10).toNatClampNeg x1) x0 10)).toNatClampNeg x2) x0 10)).toNatClampNeg x3) x0 10)) 403 ∧ (Q (sh, (up (up (up (up I (x0 + 3) (I x0 10).toNatClampNeg x1) (x0 + 4) (((up I (x0 + 3) (I x0 10).toNatClampNeg x1) x0 10)).toNatClampNeg x2) (x0 + 5) (((up (up I (x0 + 3) (I x0 10).toNatClampNeg x1) (x0 + 4) (((up I (x0 + 3) (I x0 10).toNatClampNeg x1) x0 10)).toNatClampNeg x2) x0 10)).toNatClampNeg x3) x0 10 ((((up (up (up I (x0 + 3) (I x0 10).toNatClampNeg x1) (x0 + 4) (((up I (x0 + 3) (I x0 10).toNatClampNeg x1) x0 10)).toNatClampNeg x2) (x0 + 5) (((up (up I (x0 + 3) (I x0 10).toNatClampNeg x1) (x0 + 4) (((up I (x0 + 3) (I x0 10).toNatClampNeg x1) x0 10)).toNatClampNeg x2) x0 10)).toNatClampNeg x3) x0 10) + (1 : Int32)))), (up J (x0 + 6) (((up (up (up I (x0 + 3) (I x0 10).toNatClampNeg x1) (x0 + 4) (((up I (x0 + 3) (I x0 10).toNatClampNeg x1) x0 10)).toNatClampNeg x2) (x0 + 5) (((up (up I (x0 + 3) (I x0 10).toNatClampNeg x1) (x0 + 4) (((up I (x0 + 3) (I x0 10).toNatClampNeg x1) x0 10)).toNatClampNeg x2) x0 10)).toNatClampNeg x3) x0 10)).toNatClampNeg x4), R) (none)))))) :
    rW γ l m_X9_tokenIs 0 0 0 [some (.ref x0), some (.int x1), some (.int x2), some (.int x3), some (.long x4), none] [] (sh, I, J, R) Q := by
  obtain ⟨b1, t⟩ := t
  obtain ⟨b2, t⟩ := t
  obtain ⟨b3, t⟩ := t
  obtain ⟨b4, t⟩ := t
  exact ⟨_, _, b_X9_tokenIs_0  h_x0 b1 b2 b3 b4 ⟨rfl, rfl⟩, t⟩
abbrev s_X9_cut_0 (γ : rG) (l : Launch) (x0 : Nat) (h : rHeap) (Q : rHeap → Option Value → Prop) : Prop := rW γ l m_X9_cut 0 0 0 [some (.ref x0), none, none, none, none, none, none, none] [] h Q
theorem w_X9_cut_0 {γ : rG} {l : Launch} {Q : rHeap → Option Value → Prop} {sh : Nat × (Nat → Nat) × (Nat → Nat)} {I : Nat → Nat → Int32} {J : Nat → Nat → Int64} {R : Nat → Nat → Option Nat} {x0 : Nat}
    (h_x0 : At9 sh R x0)
    (t : rW γ l m_X9_cut 0 0 7 [some (.ref x0), some (.int (0 : Int32)), none, none, none, none, none, none] [] (sh, (up I x0 10 (0 : Int32)), J, R) Q) :
    rW γ l m_X9_cut 0 0 0 [some (.ref x0), none, none, none, none, none, none, none] [] (sh, I, J, R) Q := by
  obtain ⟨hf, r, t, q⟩ := t
  exact ⟨hf, r, b_X9_cut_0  h_x0 t, q⟩
abbrev s_X9_cut_7 (γ : rG) (l : Launch) (x0 : Nat) (x1 : Int32) (h : rHeap) (Q : rHeap → Option Value → Prop) : Prop := rW γ l m_X9_cut 0 0 7 [some (.ref x0), some (.int x1), none, none, none, none, none, none] [] h Q
theorem w_X9_cut_7 {γ : rG} {l : Launch} {Q : rHeap → Option Value → Prop} {sh : Nat × (Nat → Nat) × (Nat → Nat)} {I : Nat → Nat → Int32} {J : Nat → Nat → Int64} {R : Nat → Nat → Option Nat} {x0 : Nat} {x1 : Int32}
    (h_x0 : At9 sh R x0)
    (t : ((400 : Int32) < (I x0 10) → (Q (sh, I, J, R) (none))) ∧ (¬ (400 : Int32) < (I x0 10) → (∃ (v4 : Int32), rMet γ l m_X9_byteAt [.ref x0, .int x1] (sh, I, J, R) (sh, I, J, R) (some (.int v4)) ∧ ((x1 < (I x0 4) → ((v4 = (9 : Int32) → (rW γ l m_X9_cut 0 0 7 [some (.ref x0), some (.int (x1 + (1 : Int32))), none, none, none, none, none, none] [] (sh, I, J, R) Q)) ∧ (¬ v4 = (9 : Int32) → ((v4 = (10 : Int32) → (rW γ l m_X9_cut 0 0 7 [some (.ref x0), some (.int (x1 + (1 : Int32))), none, none, none, none, none, none] [] (sh, I, J, R) Q)) ∧ (¬ v4 = (10 : Int32) → ((v4 = (13 : Int32) → (rW γ l m_X9_cut 0 0 7 [some (.ref x0), some (.int (x1 + (1 : Int32))), none, none, none, none, none, none] [] (sh, I, J, R) Q)) ∧ (¬ v4 = (13 : Int32) → ((v4 = (32 : Int32) → (rW γ l m_X9_cut 0 0 7 [some (.ref x0), some (.int (x1 + (1 : Int32))), none, none, none, none, none, none] [] (sh, I, J, R) Q)) ∧ (¬ v4 = (32 : Int32) → (∃ (v14 : Int32), rMet γ l m_X9_isLetter [.int v4] (sh, I, J, R) (sh, I, J, R) (some (.int v14)) ∧ ((v14 = 0 → (∃ (v17 : Int32), rMet γ l m_X9_isDigit [.int v4] (sh, I, J, R) (sh, I, J, R) (some (.int v17)) ∧ ((v17 = 0 → (∃ (v20 : Int32), rMet γ l m_X9_byteAt [.ref x0, .int (x1 + (1 : Int32))] (sh, I, J, R) (sh, I, J, R) (some (.int v20)) ∧ (∃ (I21 : Nat → Nat → Int32) (J22 : Nat → Nat → Int64) (v24 : Int32), rMet γ l m_X9_sign [.ref x0, .int x1, .int v4, .int v20] (sh, I, J, R) (sh, I21, J22, R) (some (.int v24)) ∧ (rW γ l m_X9_cut 0 0 7 [some (.ref x0), some (.int (x1 + v24)), none, none, none, none, none, none] [] (sh, I21, J22, R) Q)))) ∧ (¬ v17 = 0 → (rW γ l m_X9_cut 0 0 208 [some (.ref x0), some (.int x1), none, some (.int (0 : Int32)), some (.int (0 : Int32)), none, none, none] [] (sh, I, J, R) Q))))) ∧ (¬ v14 = 0 → (rW γ l m_X9_cut 0 0 85 [some (.ref x0), some (.int x1), none, some (.int (0 : Int32)), some (.long (0 : Int64)), none, none, none] [] (sh, I, J, R) Q))))))))))))) ∧ (¬ x1 < (I x0 4) → (∃ (I29 : Nat → Nat → Int32) (J30 : Nat → Nat → Int64), rMet γ l m_X9_tokenIs [.ref x0, .int (0 : Int32), .int (I x0 4), .int (0 : Int32), .long (0 : Int64)] (sh, I, J, R) (sh, I29, J30, R) none ∧ (Q (sh, I29, J30, R) (none)))))))) :
    rW γ l m_X9_cut 0 0 7 [some (.ref x0), some (.int x1), none, none, none, none, none, none] [] (sh, I, J, R) Q := by
  by_cases p0 : (400 : Int32) < (I x0 10)
  · have t := t.1 p0
    exact ⟨_, _, b_X9_cut_7 (v4 := 0) (v14 := 0) (v17 := 0) (v20 := 0) (I21 := I) (J22 := J) (v24 := 0) (I29 := I) (J30 := J) h_x0 (fun _ => ⟨rfl, rfl⟩) (fun y0 => absurd p0 y0) (fun y0 _ _ => absurd p0 y0) (fun y0 _ _ _ => absurd p0 y0) (fun y0 _ _ _ _ => absurd p0 y0) (fun y0 _ _ _ _ _ => absurd p0 y0) (fun y0 _ _ _ _ _ _ => absurd p0 y0) (fun y0 _ _ _ _ _ _ _ => absurd p0 y0) (fun y0 _ _ _ _ _ _ _ => absurd p0 y0) (fun y0 _ _ _ _ _ _ _ => absurd p0 y0) (fun y0 _ _ _ _ _ _ _ => absurd p0 y0) (fun y0 _ _ _ _ _ _ => absurd p0 y0) (fun y0 _ _ _ _ _ => absurd p0 y0) (fun y0 _ => absurd p0 y0) (fun y0 _ => absurd p0 y0), t⟩
  · have t := t.2 p0
    obtain ⟨v4, m3, t⟩ := t
    by_cases p1 : x1 < (I x0 4)
    · have t := t.1 p1
      by_cases p2 : v4 = (9 : Int32)
      · have t := t.1 p2
        obtain ⟨hf, r, t, q⟩ := t
        exact ⟨hf, r, b_X9_cut_7 (v14 := 0) (v17 := 0) (v20 := 0) (I21 := I) (J22 := J) (v24 := 0) (I29 := I) (J30 := J) h_x0 (fun y0 => absurd y0 p0) (fun _ => m3) (fun _ _ _ => t) (fun _ _ y2 _ => absurd p2 y2) (fun _ _ y2 _ _ => absurd p2 y2) (fun _ _ y2 _ _ _ => absurd p2 y2) (fun _ _ y2 _ _ _ _ => absurd p2 y2) (fun _ _ y2 _ _ _ _ _ => absurd p2 y2) (fun _ _ y2 _ _ _ _ _ => absurd p2 y2) (fun _ _ y2 _ _ _ _ _ => absurd p2 y2) (fun _ _ y2 _ _ _ _ _ => absurd p2 y2) (fun _ _ y2 _ _ _ _ => absurd p2 y2) (fun _ _ y2 _ _ _ => absurd p2 y2) (fun _ y1 => absurd p1 y1) (fun _ y1 => absurd p1 y1), q⟩
      · have t := t.2 p2
        by_cases p3 : v4 = (10 : Int32)
        · have t := t.1 p3
          obtain ⟨hf, r, t, q⟩ := t
          exact ⟨hf, r, b_X9_cut_7 (v14 := 0) (v17 := 0) (v20 := 0) (I21 := I) (J22 := J) (v24 := 0) (I29 := I) (J30 := J) h_x0 (fun y0 => absurd y0 p0) (fun _ => m3) (fun _ _ y2 => absurd y2 p2) (fun _ _ _ _ => t) (fun _ _ _ y3 _ => absurd p3 y3) (fun _ _ _ y3 _ _ => absurd p3 y3) (fun _ _ _ y3 _ _ _ => absurd p3 y3) (fun _ _ _ y3 _ _ _ _ => absurd p3 y3) (fun _ _ _ y3 _ _ _ _ => absurd p3 y3) (fun _ _ _ y3 _ _ _ _ => absurd p3 y3) (fun _ _ _ y3 _ _ _ _ => absurd p3 y3) (fun _ _ _ y3 _ _ _ => absurd p3 y3) (fun _ _ _ y3 _ _ => absurd p3 y3) (fun _ y1 => absurd p1 y1) (fun _ y1 => absurd p1 y1), q⟩
        · have t := t.2 p3
          by_cases p4 : v4 = (13 : Int32)
          · have t := t.1 p4
            obtain ⟨hf, r, t, q⟩ := t
            exact ⟨hf, r, b_X9_cut_7 (v14 := 0) (v17 := 0) (v20 := 0) (I21 := I) (J22 := J) (v24 := 0) (I29 := I) (J30 := J) h_x0 (fun y0 => absurd y0 p0) (fun _ => m3) (fun _ _ y2 => absurd y2 p2) (fun _ _ _ y3 => absurd y3 p3) (fun _ _ _ _ _ => t) (fun _ _ _ _ y4 _ => absurd p4 y4) (fun _ _ _ _ y4 _ _ => absurd p4 y4) (fun _ _ _ _ y4 _ _ _ => absurd p4 y4) (fun _ _ _ _ y4 _ _ _ => absurd p4 y4) (fun _ _ _ _ y4 _ _ _ => absurd p4 y4) (fun _ _ _ _ y4 _ _ _ => absurd p4 y4) (fun _ _ _ _ y4 _ _ => absurd p4 y4) (fun _ _ _ _ y4 _ => absurd p4 y4) (fun _ y1 => absurd p1 y1) (fun _ y1 => absurd p1 y1), q⟩
          · have t := t.2 p4
            by_cases p5 : v4 = (32 : Int32)
            · have t := t.1 p5
              obtain ⟨hf, r, t, q⟩ := t
              exact ⟨hf, r, b_X9_cut_7 (v14 := 0) (v17 := 0) (v20 := 0) (I21 := I) (J22 := J) (v24 := 0) (I29 := I) (J30 := J) h_x0 (fun y0 => absurd y0 p0) (fun _ => m3) (fun _ _ y2 => absurd y2 p2) (fun _ _ _ y3 => absurd y3 p3) (fun _ _ _ _ y4 => absurd y4 p4) (fun _ _ _ _ _ y5 => absurd p5 y5) (fun _ _ _ _ _ y5 _ => absurd p5 y5) (fun _ _ _ _ _ y5 _ _ => absurd p5 y5) (fun _ _ _ _ _ y5 _ _ => absurd p5 y5) (fun _ _ _ _ _ y5 _ _ => absurd p5 y5) (fun _ _ _ _ _ y5 _ _ => absurd p5 y5) (fun _ _ _ _ _ y5 _ => absurd p5 y5) (fun _ _ _ _ _ _ => t) (fun _ y1 => absurd p1 y1) (fun _ y1 => absurd p1 y1), q⟩
            · have t := t.2 p5
              obtain ⟨v14, m13, t⟩ := t
              by_cases p6 : v14 = 0
              · have t := t.1 p6
                obtain ⟨v17, m16, t⟩ := t
                by_cases p7 : v17 = 0
                · have t := t.1 p7
                  obtain ⟨v20, m19, t⟩ := t
                  obtain ⟨I21, J22, v24, m23, t⟩ := t
                  obtain ⟨hf, r, t, q⟩ := t
                  exact ⟨hf, r, b_X9_cut_7 (I29 := I) (J30 := J) h_x0 (fun y0 => absurd y0 p0) (fun _ => m3) (fun _ _ y2 => absurd y2 p2) (fun _ _ _ y3 => absurd y3 p3) (fun _ _ _ _ y4 => absurd y4 p4) (fun _ _ _ _ _ _ => m13) (fun _ _ _ _ _ _ _ => m16) (fun _ _ _ _ _ _ _ _ => m19) (fun _ _ _ _ _ _ _ _ => m23) (fun _ _ _ _ _ _ _ _ => t) (fun _ _ _ _ _ _ _ y7 => absurd p7 y7) (fun _ _ _ _ _ _ y6 => absurd p6 y6) (fun _ _ _ _ _ y5 => absurd y5 p5) (fun _ y1 => absurd p1 y1) (fun _ y1 => absurd p1 y1), q⟩
                · have t := t.2 p7
                  obtain ⟨hf, r, t, q⟩ := t
                  exact ⟨hf, r, b_X9_cut_7 (v20 := 0) (I21 := I) (J22 := J) (v24 := 0) (I29 := I) (J30 := J) h_x0 (fun y0 => absurd y0 p0) (fun _ => m3) (fun _ _ y2 => absurd y2 p2) (fun _ _ _ y3 => absurd y3 p3) (fun _ _ _ _ y4 => absurd y4 p4) (fun _ _ _ _ _ _ => m13) (fun _ _ _ _ _ _ _ => m16) (fun _ _ _ _ _ _ _ y7 => absurd y7 p7) (fun _ _ _ _ _ _ _ y7 => absurd y7 p7) (fun _ _ _ _ _ _ _ y7 => absurd y7 p7) (fun _ _ _ _ _ _ _ _ => t) (fun _ _ _ _ _ _ y6 => absurd p6 y6) (fun _ _ _ _ _ y5 => absurd y5 p5) (fun _ y1 => absurd p1 y1) (fun _ y1 => absurd p1 y1), q⟩
              · have t := t.2 p6
                obtain ⟨hf, r, t, q⟩ := t
                exact ⟨hf, r, b_X9_cut_7 (v17 := 0) (v20 := 0) (I21 := I) (J22 := J) (v24 := 0) (I29 := I) (J30 := J) h_x0 (fun y0 => absurd y0 p0) (fun _ => m3) (fun _ _ y2 => absurd y2 p2) (fun _ _ _ y3 => absurd y3 p3) (fun _ _ _ _ y4 => absurd y4 p4) (fun _ _ _ _ _ _ => m13) (fun _ _ _ _ _ _ y6 => absurd y6 p6) (fun _ _ _ _ _ _ y6 _ => absurd y6 p6) (fun _ _ _ _ _ _ y6 _ => absurd y6 p6) (fun _ _ _ _ _ _ y6 _ => absurd y6 p6) (fun _ _ _ _ _ _ y6 _ => absurd y6 p6) (fun _ _ _ _ _ _ _ => t) (fun _ _ _ _ _ y5 => absurd y5 p5) (fun _ y1 => absurd p1 y1) (fun _ y1 => absurd p1 y1), q⟩
    · have t := t.2 p1
      obtain ⟨I29, J30, m31, t⟩ := t
      exact ⟨_, _, b_X9_cut_7 (v14 := 0) (v17 := 0) (v20 := 0) (I21 := I) (J22 := J) (v24 := 0) h_x0 (fun y0 => absurd y0 p0) (fun _ => m3) (fun _ y1 _ => absurd y1 p1) (fun _ y1 _ _ => absurd y1 p1) (fun _ y1 _ _ _ => absurd y1 p1) (fun _ y1 _ _ _ _ => absurd y1 p1) (fun _ y1 _ _ _ _ _ => absurd y1 p1) (fun _ y1 _ _ _ _ _ _ => absurd y1 p1) (fun _ y1 _ _ _ _ _ _ => absurd y1 p1) (fun _ y1 _ _ _ _ _ _ => absurd y1 p1) (fun _ y1 _ _ _ _ _ _ => absurd y1 p1) (fun _ y1 _ _ _ _ _ => absurd y1 p1) (fun _ y1 _ _ _ _ => absurd y1 p1) (fun _ _ => m31) (fun _ _ => ⟨rfl, rfl⟩), t⟩
abbrev s_X9_cut_208 (γ : rG) (l : Launch) (x0 : Nat) (x1 : Int32) (x3 : Int32) (x4 : Int32) (h : rHeap) (Q : rHeap → Option Value → Prop) : Prop := rW γ l m_X9_cut 0 0 208 [some (.ref x0), some (.int x1), none, some (.int x3), some (.int x4), none, none, none] [] h Q
theorem w_X9_cut_208 {γ : rG} {l : Launch} {Q : rHeap → Option Value → Prop} {sh : Nat × (Nat → Nat) × (Nat → Nat)} {I : Nat → Nat → Int32} {J : Nat → Nat → Int64} {R : Nat → Nat → Option Nat} {x0 : Nat} {x1 : Int32} {x3 : Int32} {x4 : Int32}
    (h_x0 : At9 sh R x0)
    (t : ∃ (v2 : Int32), rMet γ l m_X9_byteAt [.ref x0, .int (x1 + x3)] (sh, I, J, R) (sh, I, J, R) (some (.int v2)) ∧ (∃ (v4 : Int32), rMet γ l m_X9_isDigit [.int v2] (sh, I, J, R) (sh, I, J, R) (some (.int v4)) ∧ ((v4 = 0 → ((x3 ≤ (4 : Int32) → (∃ (I7 : Nat → Nat → Int32) (J8 : Nat → Nat → Int64), rMet γ l m_X9_tokenIs [.ref x0, .int (2 : Int32), .int x1, .int x4, .long (0 : Int64)] (sh, I, J, R) (sh, I7, J8, R) none ∧ (rW γ l m_X9_cut 0 0 7 [some (.ref x0), some (.int (x1 + x3)), none, none, none, none, none, none] [] (sh, I7, J8, R) Q))) ∧ (¬ x3 ≤ (4 : Int32) → (∃ (I11 : Nat → Nat → Int32) (J12 : Nat → Nat → Int64), rMet γ l m_X9_tokenIs [.ref x0, .int (3 : Int32), .int x1, .int x4, .long (0 : Int64)] (sh, I, J, R) (sh, I11, J12, R) none ∧ (rW γ l m_X9_cut 0 0 7 [some (.ref x0), some (.int (x1 + x3)), none, none, none, none, none, none] [] (sh, I11, J12, R) Q))))) ∧ (¬ v4 = 0 → (((4 : Int32) ≤ x3 → (rW γ l m_X9_cut 0 0 208 [some (.ref x0), some (.int x1), none, some (.int (x3 + (1 : Int32))), some (.int x4), none, none, none] [] (sh, I, J, R) Q)) ∧ (¬ (4 : Int32) ≤ x3 → (∃ (v18 : Int32), rMet γ l m_X9_byteAt [.ref x0, .int (x1 + x3)] (sh, I, J, R) (sh, I, J, R) (some (.int v18)) ∧ (rW γ l m_X9_cut 0 0 208 [some (.ref x0), some (.int x1), none, some (.int (x3 + (1 : Int32))), some (.int ((((10 : Int32) * x4) + v18) - (48 : Int32))), none, none, none] [] (sh, I, J, R) Q)))))))) :
    rW γ l m_X9_cut 0 0 208 [some (.ref x0), some (.int x1), none, some (.int x3), some (.int x4), none, none, none] [] (sh, I, J, R) Q := by
  obtain ⟨v2, m1, t⟩ := t
  obtain ⟨v4, m3, t⟩ := t
  by_cases p0 : v4 = 0
  · have t := t.1 p0
    by_cases p1 : x3 ≤ (4 : Int32)
    · have t := t.1 p1
      obtain ⟨I7, J8, m9, t⟩ := t
      obtain ⟨hf, r, t, q⟩ := t
      exact ⟨hf, r, b_X9_cut_208 (I11 := I) (J12 := J) (v18 := 0) h_x0 m1 m3 (fun _ _ => m9) (fun _ _ => t) (fun _ y1 => absurd p1 y1) (fun _ y1 => absurd p1 y1) (fun y0 _ => absurd p0 y0) (fun y0 _ => absurd p0 y0) (fun y0 _ => absurd p0 y0), q⟩
    · have t := t.2 p1
      obtain ⟨I11, J12, m13, t⟩ := t
      obtain ⟨hf, r, t, q⟩ := t
      exact ⟨hf, r, b_X9_cut_208 (I7 := I) (J8 := J) (v18 := 0) h_x0 m1 m3 (fun _ y1 => absurd y1 p1) (fun _ y1 => absurd y1 p1) (fun _ _ => m13) (fun _ _ => t) (fun y0 _ => absurd p0 y0) (fun y0 _ => absurd p0 y0) (fun y0 _ => absurd p0 y0), q⟩
  · have t := t.2 p0
    by_cases p1 : (4 : Int32) ≤ x3
    · have t := t.1 p1
      obtain ⟨hf, r, t, q⟩ := t
      exact ⟨hf, r, b_X9_cut_208 (I7 := I) (J8 := J) (I11 := I) (J12 := J) (v18 := 0) h_x0 m1 m3 (fun y0 _ => absurd y0 p0) (fun y0 _ => absurd y0 p0) (fun y0 _ => absurd y0 p0) (fun y0 _ => absurd y0 p0) (fun _ _ => t) (fun _ y1 => absurd p1 y1) (fun _ y1 => absurd p1 y1), q⟩
    · have t := t.2 p1
      obtain ⟨v18, m17, t⟩ := t
      obtain ⟨hf, r, t, q⟩ := t
      exact ⟨hf, r, b_X9_cut_208 (I7 := I) (J8 := J) (I11 := I) (J12 := J) h_x0 m1 m3 (fun y0 _ => absurd y0 p0) (fun y0 _ => absurd y0 p0) (fun y0 _ => absurd y0 p0) (fun y0 _ => absurd y0 p0) (fun _ y1 => absurd y1 p1) (fun _ _ => m17) (fun _ _ => t), q⟩
abbrev s_X9_cut_85 (γ : rG) (l : Launch) (x0 : Nat) (x1 : Int32) (x3 : Int32) (x4 : Int64) (h : rHeap) (Q : rHeap → Option Value → Prop) : Prop := rW γ l m_X9_cut 0 0 85 [some (.ref x0), some (.int x1), none, some (.int x3), some (.long x4), none, none, none] [] h Q
theorem w_X9_cut_85 {γ : rG} {l : Launch} {Q : rHeap → Option Value → Prop} {sh : Nat × (Nat → Nat) × (Nat → Nat)} {I : Nat → Nat → Int32} {J : Nat → Nat → Int64} {R : Nat → Nat → Option Nat} {x0 : Nat} {x1 : Int32} {x3 : Int32} {x4 : Int64}
    (h_x0 : At9 sh R x0)
    (t : ∃ (v2 : Int32), rMet γ l m_X9_byteAt [.ref x0, .int (x1 + x3)] (sh, I, J, R) (sh, I, J, R) (some (.int v2)) ∧ (∃ (v4 : Int32), rMet γ l m_X9_isLetter [.int v2] (sh, I, J, R) (sh, I, J, R) (some (.int v4)) ∧ ((v4 = 0 → ((x3 ≤ (8 : Int32) → (rW γ l m_X9_cut 0 0 135 [some (.ref x0), some (.int x1), none, some (.int x3), some (.long x4), none, none, none] [.int (1 : Int32)] (sh, I, J, R) Q)) ∧ (¬ x3 ≤ (8 : Int32) → (rW γ l m_X9_cut 0 0 135 [some (.ref x0), some (.int x1), none, some (.int x3), some (.long x4), none, none, none] [.int (3 : Int32)] (sh, I, J, R) Q)))) ∧ (¬ v4 = 0 → (((8 : Int32) ≤ x3 → (rW γ l m_X9_cut 0 0 85 [some (.ref x0), some (.int x1), none, some (.int (x3 + (1 : Int32))), some (.long x4), none, none, none] [] (sh, I, J, R) Q)) ∧ (¬ (8 : Int32) ≤ x3 → (∃ (v12 : Int32), rMet γ l m_X9_byteAt [.ref x0, .int (x1 + x3)] (sh, I, J, R) (sh, I, J, R) (some (.int v12)) ∧ (∃ (v14 : Int64), rMet γ l m_X9_more [.long x4, .int v12] (sh, I, J, R) (sh, I, J, R) (some (.long v14)) ∧ (rW γ l m_X9_cut 0 0 85 [some (.ref x0), some (.int x1), none, some (.int (x3 + (1 : Int32))), some (.long v14), none, none, none] [] (sh, I, J, R) Q))))))))) :
    rW γ l m_X9_cut 0 0 85 [some (.ref x0), some (.int x1), none, some (.int x3), some (.long x4), none, none, none] [] (sh, I, J, R) Q := by
  obtain ⟨v2, m1, t⟩ := t
  obtain ⟨v4, m3, t⟩ := t
  by_cases p0 : v4 = 0
  · have t := t.1 p0
    by_cases p1 : x3 ≤ (8 : Int32)
    · have t := t.1 p1
      obtain ⟨hf, r, t, q⟩ := t
      exact ⟨hf, r, b_X9_cut_85 (v12 := 0) (v14 := 0) h_x0 m1 m3 (fun _ _ => t) (fun _ y1 => absurd p1 y1) (fun y0 _ => absurd p0 y0) (fun y0 _ => absurd p0 y0) (fun y0 _ => absurd p0 y0) (fun y0 _ => absurd p0 y0), q⟩
    · have t := t.2 p1
      obtain ⟨hf, r, t, q⟩ := t
      exact ⟨hf, r, b_X9_cut_85 (v12 := 0) (v14 := 0) h_x0 m1 m3 (fun _ y1 => absurd y1 p1) (fun _ _ => t) (fun y0 _ => absurd p0 y0) (fun y0 _ => absurd p0 y0) (fun y0 _ => absurd p0 y0) (fun y0 _ => absurd p0 y0), q⟩
  · have t := t.2 p0
    by_cases p1 : (8 : Int32) ≤ x3
    · have t := t.1 p1
      obtain ⟨hf, r, t, q⟩ := t
      exact ⟨hf, r, b_X9_cut_85 (v12 := 0) (v14 := 0) h_x0 m1 m3 (fun y0 _ => absurd y0 p0) (fun y0 _ => absurd y0 p0) (fun _ _ => t) (fun _ y1 => absurd p1 y1) (fun _ y1 => absurd p1 y1) (fun _ y1 => absurd p1 y1), q⟩
    · have t := t.2 p1
      obtain ⟨v12, m11, t⟩ := t
      obtain ⟨v14, m13, t⟩ := t
      obtain ⟨hf, r, t, q⟩ := t
      exact ⟨hf, r, b_X9_cut_85  h_x0 m1 m3 (fun y0 _ => absurd y0 p0) (fun y0 _ => absurd y0 p0) (fun _ y1 => absurd y1 p1) (fun _ _ => m11) (fun _ _ => m13) (fun _ _ => t), q⟩
abbrev s_X9_cut_135 (γ : rG) (l : Launch) (x0 : Nat) (x1 : Int32) (x3 : Int32) (x4 : Int64) (s0 : Int32) (h : rHeap) (Q : rHeap → Option Value → Prop) : Prop := rW γ l m_X9_cut 0 0 135 [some (.ref x0), some (.int x1), none, some (.int x3), some (.long x4), none, none, none] [.int s0] h Q
theorem w_X9_cut_135 {γ : rG} {l : Launch} {Q : rHeap → Option Value → Prop} {sh : Nat × (Nat → Nat) × (Nat → Nat)} {I : Nat → Nat → Int32} {J : Nat → Nat → Int64} {R : Nat → Nat → Option Nat} {x0 : Nat} {x1 : Int32} {x3 : Int32} {x4 : Int64} {s0 : Int32}
    (h_x0 : At9 sh R x0)
    (t : ((7 : Int32) < x3 → (∃ (I2 : Nat → Nat → Int32) (J3 : Nat → Nat → Int64), rMet γ l m_X9_tokenIs [.ref x0, .int s0, .int x1, .int (0 : Int32), .long x4] (sh, I, J, R) (sh, I2, J3, R) none ∧ (rW γ l m_X9_cut 0 0 7 [some (.ref x0), some (.int (x1 + x3)), none, none, none, none, none, none] [] (sh, I2, J3, R) Q))) ∧ (¬ (7 : Int32) < x3 → (rW γ l m_X9_cut 0 0 146 [some (.ref x0), some (.int x1), none, some (.int x3), some (.long x4), none, some (.int s0), some (.int (0 : Int32))] [] (sh, I, J, R) Q))) :
    rW γ l m_X9_cut 0 0 135 [some (.ref x0), some (.int x1), none, some (.int x3), some (.long x4), none, none, none] [.int s0] (sh, I, J, R) Q := by
  by_cases p0 : (7 : Int32) < x3
  · have t := t.1 p0
    obtain ⟨I2, J3, m4, t⟩ := t
    obtain ⟨hf, r, t, q⟩ := t
    exact ⟨hf, r, b_X9_cut_135  h_x0 (fun _ => m4) (fun _ => t) (fun y0 => absurd p0 y0), q⟩
  · have t := t.2 p0
    obtain ⟨hf, r, t, q⟩ := t
    exact ⟨hf, r, b_X9_cut_135 (I2 := I) (J3 := J) h_x0 (fun y0 => absurd y0 p0) (fun y0 => absurd y0 p0) (fun _ => t), q⟩
abbrev s_X9_cut_146 (γ : rG) (l : Launch) (x0 : Nat) (x1 : Int32) (x3 : Int32) (x4 : Int64) (x6 : Int32) (x7 : Int32) (h : rHeap) (Q : rHeap → Option Value → Prop) : Prop := rW γ l m_X9_cut 0 0 146 [some (.ref x0), some (.int x1), none, some (.int x3), some (.long x4), none, some (.int x6), some (.int x7)] [] h Q
theorem w_X9_cut_146 {γ : rG} {l : Launch} {Q : rHeap → Option Value → Prop} {sh : Nat × (Nat → Nat) × (Nat → Nat)} {I : Nat → Nat → Int32} {J : Nat → Nat → Int64} {R : Nat → Nat → Option Nat} {x0 : Nat} {x1 : Int32} {x3 : Int32} {x4 : Int64} {x6 : Int32} {x7 : Int32}
    (h_x0 : At9 sh R x0)
    (t : ((14 : Int32) ≤ x7 → (∃ (I2 : Nat → Nat → Int32) (J3 : Nat → Nat → Int64), rMet γ l m_X9_tokenIs [.ref x0, .int x6, .int x1, .int (0 : Int32), .long x4] (sh, I, J, R) (sh, I2, J3, R) none ∧ (rW γ l m_X9_cut 0 0 7 [some (.ref x0), some (.int (x1 + x3)), none, none, none, none, none, none] [] (sh, I2, J3, R) Q))) ∧ (¬ (14 : Int32) ≤ x7 → (vp_in x7 14 ∧ (((lg_cmp ((J (x0 + 7) x7.toNatClampNeg)) x4) = 0 → (rW γ l m_X9_cut 0 0 146 [some (.ref x0), some (.int x1), none, some (.int x3), some (.long x4), none, some (.int ((20 : Int32) + x7)), some (.int (x7 + (1 : Int32)))] [] (sh, I, J, R) Q)) ∧ (¬ (lg_cmp ((J (x0 + 7) x7.toNatClampNeg)) x4) = 0 → (rW γ l m_X9_cut 0 0 146 [some (.ref x0), some (.int x1), none, some (.int x3), some (.long x4), none, some (.int x6), some (.int (x7 + (1 : Int32)))] [] (sh, I, J, R) Q)))))) :
    rW γ l m_X9_cut 0 0 146 [some (.ref x0), some (.int x1), none, some (.int x3), some (.long x4), none, some (.int x6), some (.int x7)] [] (sh, I, J, R) Q := by
  by_cases p0 : (14 : Int32) ≤ x7
  · have t := t.1 p0
    obtain ⟨I2, J3, m4, t⟩ := t
    obtain ⟨hf, r, t, q⟩ := t
    exact ⟨hf, r, b_X9_cut_146  h_x0 (fun _ => m4) (fun _ => t) (fun y0 => absurd p0 y0) (fun y0 _ => absurd p0 y0) (fun y0 _ => absurd p0 y0), q⟩
  · have t := t.2 p0
    obtain ⟨b6, t⟩ := t
    by_cases p1 : (lg_cmp ((J (x0 + 7) x7.toNatClampNeg)) x4) = 0
    · have t := t.1 p1
      obtain ⟨hf, r, t, q⟩ := t
      exact ⟨hf, r, b_X9_cut_146 (I2 := I) (J3 := J) h_x0 (fun y0 => absurd y0 p0) (fun y0 => absurd y0 p0) (fun _ => b6) (fun _ y1 => absurd p1 y1) (fun _ _ => t), q⟩
    · have t := t.2 p1
      obtain ⟨hf, r, t, q⟩ := t
      exact ⟨hf, r, b_X9_cut_146 (I2 := I) (J3 := J) h_x0 (fun y0 => absurd y0 p0) (fun y0 => absurd y0 p0) (fun _ => b6) (fun _ _ => t) (fun _ y1 => absurd y1 p1), q⟩
abbrev s_X9_sign_0 (γ : rG) (l : Launch) (x0 : Nat) (x1 : Int32) (x2 : Int32) (x3 : Int32) (h : rHeap) (Q : rHeap → Option Value → Prop) : Prop := rW γ l m_X9_sign 0 0 0 [some (.ref x0), some (.int x1), some (.int x2), some (.int x3), none, none] [] h Q
theorem w_X9_sign_0 {γ : rG} {l : Launch} {Q : rHeap → Option Value → Prop} {sh : Nat × (Nat → Nat) × (Nat → Nat)} {I : Nat → Nat → Int32} {J : Nat → Nat → Int64} {R : Nat → Nat → Option Nat} {x0 : Nat} {x1 : Int32} {x2 : Int32} {x3 : Int32}
    (h_x0 : At9 sh R x0)
    (t : (x3 = (61 : Int32) → ((x2 = (61 : Int32) → (rW γ l m_X9_sign 0 0 44 [some (.ref x0), some (.int x1), some (.int x2), none, none, none] [.int (11 : Int32)] (sh, I, J, R) Q)) ∧ (¬ x2 = (61 : Int32) → ((x2 = (33 : Int32) → (rW γ l m_X9_sign 0 0 44 [some (.ref x0), some (.int x1), some (.int x2), none, none, none] [.int (12 : Int32)] (sh, I, J, R) Q)) ∧ (¬ x2 = (33 : Int32) → ((x2 = (60 : Int32) → (rW γ l m_X9_sign 0 0 44 [some (.ref x0), some (.int x1), some (.int x2), none, none, none] [.int (14 : Int32)] (sh, I, J, R) Q)) ∧ (¬ x2 = (60 : Int32) → (rW γ l m_X9_sign 0 0 44 [some (.ref x0), some (.int x1), some (.int x2), none, none, none] [.int (0 : Int32)] (sh, I, J, R) Q)))))))) ∧ (¬ x3 = (61 : Int32) → (rW γ l m_X9_sign 0 0 44 [some (.ref x0), some (.int x1), some (.int x2), none, none, none] [.int (0 : Int32)] (sh, I, J, R) Q))) :
    rW γ l m_X9_sign 0 0 0 [some (.ref x0), some (.int x1), some (.int x2), some (.int x3), none, none] [] (sh, I, J, R) Q := by
  by_cases p0 : x3 = (61 : Int32)
  · have t := t.1 p0
    by_cases p1 : x2 = (61 : Int32)
    · have t := t.1 p1
      obtain ⟨hf, r, t, q⟩ := t
      exact ⟨hf, r, b_X9_sign_0  h_x0 (fun _ y1 _ _ => absurd p1 y1) (fun _ y1 _ _ => absurd p1 y1) (fun _ y1 _ => absurd p1 y1) (fun _ _ => t) (fun y0 => absurd p0 y0), q⟩
    · have t := t.2 p1
      by_cases p2 : x2 = (33 : Int32)
      · have t := t.1 p2
        obtain ⟨hf, r, t, q⟩ := t
        exact ⟨hf, r, b_X9_sign_0  h_x0 (fun _ _ y2 _ => absurd p2 y2) (fun _ _ y2 _ => absurd p2 y2) (fun _ _ _ => t) (fun _ y1 => absurd y1 p1) (fun y0 => absurd p0 y0), q⟩
      · have t := t.2 p2
        by_cases p3 : x2 = (60 : Int32)
        · have t := t.1 p3
          obtain ⟨hf, r, t, q⟩ := t
          exact ⟨hf, r, b_X9_sign_0  h_x0 (fun _ _ _ y3 => absurd p3 y3) (fun _ _ _ _ => t) (fun _ _ y2 => absurd y2 p2) (fun _ y1 => absurd y1 p1) (fun y0 => absurd p0 y0), q⟩
        · have t := t.2 p3
          obtain ⟨hf, r, t, q⟩ := t
          exact ⟨hf, r, b_X9_sign_0  h_x0 (fun _ _ _ _ => t) (fun _ _ _ y3 => absurd y3 p3) (fun _ _ y2 => absurd y2 p2) (fun _ y1 => absurd y1 p1) (fun y0 => absurd p0 y0), q⟩
  · have t := t.2 p0
    obtain ⟨hf, r, t, q⟩ := t
    exact ⟨hf, r, b_X9_sign_0  h_x0 (fun y0 _ _ _ => absurd y0 p0) (fun y0 _ _ _ => absurd y0 p0) (fun y0 _ _ => absurd y0 p0) (fun y0 _ => absurd y0 p0) (fun _ => t), q⟩
abbrev s_X9_sign_44 (γ : rG) (l : Launch) (x0 : Nat) (x1 : Int32) (x2 : Int32) (s0 : Int32) (h : rHeap) (Q : rHeap → Option Value → Prop) : Prop := rW γ l m_X9_sign 0 0 44 [some (.ref x0), some (.int x1), some (.int x2), none, none, none] [.int s0] h Q
theorem w_X9_sign_44 {γ : rG} {l : Launch} {Q : rHeap → Option Value → Prop} {sh : Nat × (Nat → Nat) × (Nat → Nat)} {I : Nat → Nat → Int32} {J : Nat → Nat → Int64} {R : Nat → Nat → Option Nat} {x0 : Nat} {x1 : Int32} {x2 : Int32} {s0 : Int32}
    (h_x0 : At9 sh R x0)
    (t : (s0 ≤ 0 → ((x2 = (59 : Int32) → (rW γ l m_X9_sign 0 0 148 [some (.ref x0), some (.int x1), none, none, some (.int s0), some (.int (4 : Int32))] [] (sh, I, J, R) Q)) ∧ (¬ x2 = (59 : Int32) → ((x2 = (40 : Int32) → (rW γ l m_X9_sign 0 0 148 [some (.ref x0), some (.int x1), none, none, some (.int s0), some (.int (6 : Int32))] [] (sh, I, J, R) Q)) ∧ (¬ x2 = (40 : Int32) → ((x2 = (41 : Int32) → (rW γ l m_X9_sign 0 0 148 [some (.ref x0), some (.int x1), none, none, some (.int s0), some (.int (7 : Int32))] [] (sh, I, J, R) Q)) ∧ (¬ x2 = (41 : Int32) → ((x2 = (43 : Int32) → (rW γ l m_X9_sign 0 0 148 [some (.ref x0), some (.int x1), none, none, some (.int s0), some (.int (8 : Int32))] [] (sh, I, J, R) Q)) ∧ (¬ x2 = (43 : Int32) → ((x2 = (45 : Int32) → (rW γ l m_X9_sign 0 0 148 [some (.ref x0), some (.int x1), none, none, some (.int s0), some (.int (9 : Int32))] [] (sh, I, J, R) Q)) ∧ (¬ x2 = (45 : Int32) → ((x2 = (42 : Int32) → (rW γ l m_X9_sign 0 0 148 [some (.ref x0), some (.int x1), none, none, some (.int s0), some (.int (10 : Int32))] [] (sh, I, J, R) Q)) ∧ (¬ x2 = (42 : Int32) → ((x2 = (60 : Int32) → (rW γ l m_X9_sign 0 0 148 [some (.ref x0), some (.int x1), none, none, some (.int s0), some (.int (13 : Int32))] [] (sh, I, J, R) Q)) ∧ (¬ x2 = (60 : Int32) → (rW γ l m_X9_sign 0 0 148 [some (.ref x0), some (.int x1), none, none, some (.int s0), some (.int (3 : Int32))] [] (sh, I, J, R) Q)))))))))))))))) ∧ (¬ s0 ≤ 0 → (rW γ l m_X9_sign 0 0 148 [some (.ref x0), some (.int x1), none, none, some (.int s0), some (.int s0)] [] (sh, I, J, R) Q))) :
    rW γ l m_X9_sign 0 0 44 [some (.ref x0), some (.int x1), some (.int x2), none, none, none] [.int s0] (sh, I, J, R) Q := by
  by_cases p0 : s0 ≤ 0
  · have t := t.1 p0
    by_cases p1 : x2 = (59 : Int32)
    · have t := t.1 p1
      obtain ⟨hf, r, t, q⟩ := t
      exact ⟨hf, r, b_X9_sign_44  h_x0 (fun _ y1 _ _ _ _ _ _ => absurd p1 y1) (fun _ y1 _ _ _ _ _ _ => absurd p1 y1) (fun _ y1 _ _ _ _ _ => absurd p1 y1) (fun _ y1 _ _ _ _ => absurd p1 y1) (fun _ y1 _ _ _ => absurd p1 y1) (fun _ y1 _ _ => absurd p1 y1) (fun _ y1 _ => absurd p1 y1) (fun _ _ => t) (fun y0 => absurd p0 y0), q⟩
    · have t := t.2 p1
      by_cases p2 : x2 = (40 : Int32)
      · have t := t.1 p2
        obtain ⟨hf, r, t, q⟩ := t
        exact ⟨hf, r, b_X9_sign_44  h_x0 (fun _ _ y2 _ _ _ _ _ => absurd p2 y2) (fun _ _ y2 _ _ _ _ _ => absurd p2 y2) (fun _ _ y2 _ _ _ _ => absurd p2 y2) (fun _ _ y2 _ _ _ => absurd p2 y2) (fun _ _ y2 _ _ => absurd p2 y2) (fun _ _ y2 _ => absurd p2 y2) (fun _ _ _ => t) (fun _ y1 => absurd y1 p1) (fun y0 => absurd p0 y0), q⟩
      · have t := t.2 p2
        by_cases p3 : x2 = (41 : Int32)
        · have t := t.1 p3
          obtain ⟨hf, r, t, q⟩ := t
          exact ⟨hf, r, b_X9_sign_44  h_x0 (fun _ _ _ y3 _ _ _ _ => absurd p3 y3) (fun _ _ _ y3 _ _ _ _ => absurd p3 y3) (fun _ _ _ y3 _ _ _ => absurd p3 y3) (fun _ _ _ y3 _ _ => absurd p3 y3) (fun _ _ _ y3 _ => absurd p3 y3) (fun _ _ _ _ => t) (fun _ _ y2 => absurd y2 p2) (fun _ y1 => absurd y1 p1) (fun y0 => absurd p0 y0), q⟩
        · have t := t.2 p3
          by_cases p4 : x2 = (43 : Int32)
          · have t := t.1 p4
            obtain ⟨hf, r, t, q⟩ := t
            exact ⟨hf, r, b_X9_sign_44  h_x0 (fun _ _ _ _ y4 _ _ _ => absurd p4 y4) (fun _ _ _ _ y4 _ _ _ => absurd p4 y4) (fun _ _ _ _ y4 _ _ => absurd p4 y4) (fun _ _ _ _ y4 _ => absurd p4 y4) (fun _ _ _ _ _ => t) (fun _ _ _ y3 => absurd y3 p3) (fun _ _ y2 => absurd y2 p2) (fun _ y1 => absurd y1 p1) (fun y0 => absurd p0 y0), q⟩
          · have t := t.2 p4
            by_cases p5 : x2 = (45 : Int32)
            · have t := t.1 p5
              obtain ⟨hf, r, t, q⟩ := t
              exact ⟨hf, r, b_X9_sign_44  h_x0 (fun _ _ _ _ _ y5 _ _ => absurd p5 y5) (fun _ _ _ _ _ y5 _ _ => absurd p5 y5) (fun _ _ _ _ _ y5 _ => absurd p5 y5) (fun _ _ _ _ _ _ => t) (fun _ _ _ _ y4 => absurd y4 p4) (fun _ _ _ y3 => absurd y3 p3) (fun _ _ y2 => absurd y2 p2) (fun _ y1 => absurd y1 p1) (fun y0 => absurd p0 y0), q⟩
            · have t := t.2 p5
              by_cases p6 : x2 = (42 : Int32)
              · have t := t.1 p6
                obtain ⟨hf, r, t, q⟩ := t
                exact ⟨hf, r, b_X9_sign_44  h_x0 (fun _ _ _ _ _ _ y6 _ => absurd p6 y6) (fun _ _ _ _ _ _ y6 _ => absurd p6 y6) (fun _ _ _ _ _ _ _ => t) (fun _ _ _ _ _ y5 => absurd y5 p5) (fun _ _ _ _ y4 => absurd y4 p4) (fun _ _ _ y3 => absurd y3 p3) (fun _ _ y2 => absurd y2 p2) (fun _ y1 => absurd y1 p1) (fun y0 => absurd p0 y0), q⟩
              · have t := t.2 p6
                by_cases p7 : x2 = (60 : Int32)
                · have t := t.1 p7
                  obtain ⟨hf, r, t, q⟩ := t
                  exact ⟨hf, r, b_X9_sign_44  h_x0 (fun _ _ _ _ _ _ _ y7 => absurd p7 y7) (fun _ _ _ _ _ _ _ _ => t) (fun _ _ _ _ _ _ y6 => absurd y6 p6) (fun _ _ _ _ _ y5 => absurd y5 p5) (fun _ _ _ _ y4 => absurd y4 p4) (fun _ _ _ y3 => absurd y3 p3) (fun _ _ y2 => absurd y2 p2) (fun _ y1 => absurd y1 p1) (fun y0 => absurd p0 y0), q⟩
                · have t := t.2 p7
                  obtain ⟨hf, r, t, q⟩ := t
                  exact ⟨hf, r, b_X9_sign_44  h_x0 (fun _ _ _ _ _ _ _ _ => t) (fun _ _ _ _ _ _ _ y7 => absurd y7 p7) (fun _ _ _ _ _ _ y6 => absurd y6 p6) (fun _ _ _ _ _ y5 => absurd y5 p5) (fun _ _ _ _ y4 => absurd y4 p4) (fun _ _ _ y3 => absurd y3 p3) (fun _ _ y2 => absurd y2 p2) (fun _ y1 => absurd y1 p1) (fun y0 => absurd p0 y0), q⟩
  · have t := t.2 p0
    obtain ⟨hf, r, t, q⟩ := t
    exact ⟨hf, r, b_X9_sign_44  h_x0 (fun y0 _ _ _ _ _ _ _ => absurd y0 p0) (fun y0 _ _ _ _ _ _ _ => absurd y0 p0) (fun y0 _ _ _ _ _ _ => absurd y0 p0) (fun y0 _ _ _ _ _ => absurd y0 p0) (fun y0 _ _ _ _ => absurd y0 p0) (fun y0 _ _ _ => absurd y0 p0) (fun y0 _ _ => absurd y0 p0) (fun y0 _ => absurd y0 p0) (fun _ => t), q⟩
abbrev s_X9_sign_148 (γ : rG) (l : Launch) (x0 : Nat) (x1 : Int32) (x4 : Int32) (x5 : Int32) (h : rHeap) (Q : rHeap → Option Value → Prop) : Prop := rW γ l m_X9_sign 0 0 148 [some (.ref x0), some (.int x1), none, none, some (.int x4), some (.int x5)] [] h Q
theorem w_X9_sign_148 {γ : rG} {l : Launch} {Q : rHeap → Option Value → Prop} {sh : Nat × (Nat → Nat) × (Nat → Nat)} {I : Nat → Nat → Int32} {J : Nat → Nat → Int64} {R : Nat → Nat → Option Nat} {x0 : Nat} {x1 : Int32} {x4 : Int32} {x5 : Int32}
    (h_x0 : At9 sh R x0)
    (t : ∃ (I1 : Nat → Nat → Int32) (J2 : Nat → Nat → Int64), rMet γ l m_X9_tokenIs [.ref x0, .int x5, .int x1, .int (0 : Int32), .long (0 : Int64)] (sh, I, J, R) (sh, I1, J2, R) none ∧ ((x4 ≤ 0 → (Q (sh, I1, J2, R) (some (.int (1 : Int32))))) ∧ (¬ x4 ≤ 0 → (Q (sh, I1, J2, R) (some (.int (2 : Int32))))))) :
    rW γ l m_X9_sign 0 0 148 [some (.ref x0), some (.int x1), none, none, some (.int x4), some (.int x5)] [] (sh, I, J, R) Q := by
  obtain ⟨I1, J2, m3, t⟩ := t
  by_cases p0 : x4 ≤ 0
  · have t := t.1 p0
    exact ⟨_, _, b_X9_sign_148  h_x0 m3 (fun _ => ⟨rfl, rfl⟩) (fun y0 => absurd p0 y0), t⟩
  · have t := t.2 p0
    exact ⟨_, _, b_X9_sign_148  h_x0 m3 (fun y0 => absurd y0 p0) (fun _ => ⟨rfl, rfl⟩), t⟩
abbrev s_X9_is_0 (γ : rG) (l : Launch) (x0 : Nat) (x1 : Int32) (h : rHeap) (Q : rHeap → Option Value → Prop) : Prop := rW γ l m_X9_is 0 0 0 [some (.ref x0), some (.int x1)] [] h Q
theorem w_X9_is_0 {γ : rG} {l : Launch} {Q : rHeap → Option Value → Prop} {sh : Nat × (Nat → Nat) × (Nat → Nat)} {I : Nat → Nat → Int32} {J : Nat → Nat → Int64} {R : Nat → Nat → Option Nat} {x0 : Nat} {x1 : Int32}
    (h_x0 : At9 sh R x0)
    (t : ((I x0 13) = 0 → (vp_in (I x0 11) 403 ∧ (((I (x0 + 3) (I x0 11).toNatClampNeg) = x1 → (Q (sh, I, J, R) (some (.int (1 : Int32))))) ∧ (¬ (I (x0 + 3) (I x0 11).toNatClampNeg) = x1 → (Q (sh, I, J, R) (some (.int (0 : Int32)))))))) ∧ (¬ (I x0 13) = 0 → (Q (sh, I, J, R) (some (.int (0 : Int32)))))) :
    rW γ l m_X9_is 0 0 0 [some (.ref x0), some (.int x1)] [] (sh, I, J, R) Q := by
  by_cases p0 : (I x0 13) = 0
  · have t := t.1 p0
    obtain ⟨b3, t⟩ := t
    by_cases p1 : (I (x0 + 3) (I x0 11).toNatClampNeg) = x1
    · have t := t.1 p1
      exact ⟨_, _, b_X9_is_0  h_x0 (fun y0 => absurd p0 y0) (fun _ => b3) (fun _ y1 => absurd p1 y1) (fun _ _ => ⟨rfl, rfl⟩), t⟩
    · have t := t.2 p1
      exact ⟨_, _, b_X9_is_0  h_x0 (fun y0 => absurd p0 y0) (fun _ => b3) (fun _ _ => ⟨rfl, rfl⟩) (fun _ y1 => absurd y1 p1), t⟩
  · have t := t.2 p0
    exact ⟨_, _, b_X9_is_0  h_x0 (fun _ => ⟨rfl, rfl⟩) (fun y0 => absurd y0 p0) (fun y0 _ => absurd y0 p0) (fun y0 _ => absurd y0 p0), t⟩
abbrev s_X9_fail_0 (γ : rG) (l : Launch) (x0 : Nat) (x1 : Int32) (h : rHeap) (Q : rHeap → Option Value → Prop) : Prop := rW γ l m_X9_fail 0 0 0 [some (.ref x0), some (.int x1)] [] h Q
theorem w_X9_fail_0 {γ : rG} {l : Launch} {Q : rHeap → Option Value → Prop} {sh : Nat × (Nat → Nat) × (Nat → Nat)} {I : Nat → Nat → Int32} {J : Nat → Nat → Int64} {R : Nat → Nat → Option Nat} {x0 : Nat} {x1 : Int32}
    (h_x0 : At9 sh R x0)
    (t : ((I x0 13) ≤ 0 → (vp_in (((up I x0 13 x1) x0 11)) 403 ∧ (Q (sh, (up (up I x0 13 x1) x0 14 (((up I x0 13 x1) (x0 + 4) (((up I x0 13 x1) x0 11)).toNatClampNeg))), J, R) (none)))) ∧ (¬ (I x0 13) ≤ 0 → (Q (sh, I, J, R) (none)))) :
    rW γ l m_X9_fail 0 0 0 [some (.ref x0), some (.int x1)] [] (sh, I, J, R) Q := by
  by_cases p0 : (I x0 13) ≤ 0
  · have t := t.1 p0
    obtain ⟨b2, t⟩ := t
    exact ⟨_, _, b_X9_fail_0  h_x0 (fun _ => b2) (fun _ => ⟨rfl, rfl⟩) (fun y0 => absurd p0 y0), t⟩
  · have t := t.2 p0
    exact ⟨_, _, b_X9_fail_0  h_x0 (fun y0 => absurd y0 p0) (fun y0 => absurd y0 p0) (fun _ => ⟨rfl, rfl⟩), t⟩
abbrev s_X9_next_0 (γ : rG) (l : Launch) (x0 : Nat) (h : rHeap) (Q : rHeap → Option Value → Prop) : Prop := rW γ l m_X9_next 0 0 0 [some (.ref x0)] [] h Q
theorem w_X9_next_0 {γ : rG} {l : Launch} {Q : rHeap → Option Value → Prop} {sh : Nat × (Nat → Nat) × (Nat → Nat)} {I : Nat → Nat → Int32} {J : Nat → Nat → Int64} {R : Nat → Nat → Option Nat} {x0 : Nat}
    (h_x0 : At9 sh R x0)
    (t : ((I x0 11) = (400 : Int32) → (∃ (I3 : Nat → Nat → Int32), rMet γ l m_X9_fail [.ref x0, .int (2 : Int32)] (sh, I, J, R) (sh, I3, J, R) none ∧ (Q (sh, I3, J, R) (none)))) ∧ (¬ (I x0 11) = (400 : Int32) → (Q (sh, (up I x0 11 (((I x0 11) + (1 : Int32)))), J, R) (none)))) :
    rW γ l m_X9_next 0 0 0 [some (.ref x0)] [] (sh, I, J, R) Q := by
  by_cases p0 : (I x0 11) = (400 : Int32)
  · have t := t.1 p0
    obtain ⟨I3, m4, t⟩ := t
    exact ⟨_, _, b_X9_next_0  h_x0 (fun y0 => absurd p0 y0) (fun _ => m4) (fun _ => ⟨rfl, rfl⟩), t⟩
  · have t := t.2 p0
    exact ⟨_, _, b_X9_next_0 (I3 := I) h_x0 (fun _ => ⟨rfl, rfl⟩) (fun y0 => absurd y0 p0) (fun y0 => absurd y0 p0), t⟩
abbrev s_X9_must_0 (γ : rG) (l : Launch) (x0 : Nat) (x1 : Int32) (h : rHeap) (Q : rHeap → Option Value → Prop) : Prop := rW γ l m_X9_must 0 0 0 [some (.ref x0), some (.int x1)] [] h Q
theorem w_X9_must_0 {γ : rG} {l : Launch} {Q : rHeap → Option Value → Prop} {sh : Nat × (Nat → Nat) × (Nat → Nat)} {I : Nat → Nat → Int32} {J : Nat → Nat → Int64} {R : Nat → Nat → Option Nat} {x0 : Nat} {x1 : Int32}
    (h_x0 : At9 sh R x0)
    (t : ∃ (v2 : Int32), rMet γ l m_X9_is [.ref x0, .int x1] (sh, I, J, R) (sh, I, J, R) (some (.int v2)) ∧ ((v2 = 0 → (∃ (I4 : Nat → Nat → Int32), rMet γ l m_X9_fail [.ref x0, .int (1 : Int32)] (sh, I, J, R) (sh, I4, J, R) none ∧ (Q (sh, I4, J, R) (none)))) ∧ (¬ v2 = 0 → (∃ (I7 : Nat → Nat → Int32), rMet γ l m_X9_next [.ref x0] (sh, I, J, R) (sh, I7, J, R) none ∧ (Q (sh, I7, J, R) (none)))))) :
    rW γ l m_X9_must 0 0 0 [some (.ref x0), some (.int x1)] [] (sh, I, J, R) Q := by
  obtain ⟨v2, m1, t⟩ := t
  by_cases p0 : v2 = 0
  · have t := t.1 p0
    obtain ⟨I4, m5, t⟩ := t
    exact ⟨_, _, b_X9_must_0 (I7 := I) h_x0 m1 (fun _ => m5) (fun _ => ⟨rfl, rfl⟩) (fun y0 => absurd p0 y0) (fun y0 => absurd p0 y0), t⟩
  · have t := t.2 p0
    obtain ⟨I7, m8, t⟩ := t
    exact ⟨_, _, b_X9_must_0 (I4 := I) h_x0 m1 (fun y0 => absurd y0 p0) (fun y0 => absurd y0 p0) (fun _ => m8) (fun _ => ⟨rfl, rfl⟩), t⟩
abbrev s_X9_read_0 (γ : rG) (l : Launch) (x0 : Nat) (h : rHeap) (Q : rHeap → Option Value → Prop) : Prop := rW γ l m_X9_read 0 0 0 [some (.ref x0), none] [] h Q
theorem w_X9_read_0 {γ : rG} {l : Launch} {Q : rHeap → Option Value → Prop} {sh : Nat × (Nat → Nat) × (Nat → Nat)} {I : Nat → Nat → Int32} {J : Nat → Nat → Int64} {R : Nat → Nat → Option Nat} {x0 : Nat}
    (h_x0 : At9 sh R x0)
    (t : rW γ l m_X9_read 0 0 10 [some (.ref x0), some (.int (0 : Int32))] [] (sh, (up I x0 4 (I x0 2)), J, R) Q) :
    rW γ l m_X9_read 0 0 0 [some (.ref x0), none] [] (sh, I, J, R) Q := by
  obtain ⟨hf, r, t, q⟩ := t
  exact ⟨hf, r, b_X9_read_0  h_x0 t, q⟩
abbrev s_X9_read_10 (γ : rG) (l : Launch) (x0 : Nat) (x1 : Int32) (h : rHeap) (Q : rHeap → Option Value → Prop) : Prop := rW γ l m_X9_read 0 0 10 [some (.ref x0), some (.int x1)] [] h Q
theorem w_X9_read_10 {γ : rG} {l : Launch} {Q : rHeap → Option Value → Prop} {sh : Nat × (Nat → Nat) × (Nat → Nat)} {I : Nat → Nat → Int32} {J : Nat → Nat → Int64} {R : Nat → Nat → Option Nat} {x0 : Nat} {x1 : Int32}
    (h_x0 : At9 sh R x0)
    (t : ((I x0 4) ≤ x1 → (∃ (I2 : Nat → Nat → Int32) (J3 : Nat → Nat → Int64), rMet γ l m_X9_cut [.ref x0] (sh, (up I x0 2 (0 : Int32)), J, R) (sh, I2, J3, R) none ∧ (vp_in (((up (up (up (up (up I2 x0 11 (0 : Int32)) x0 12 (0 : Int32)) x0 13 (0 : Int32)) x0 15 (0 : Int32)) x0 19 (((1 : Int32) - ((up (up (up (up I2 x0 11 (0 : Int32)) x0 12 (0 : Int32)) x0 13 (0 : Int32)) x0 15 (0 : Int32)) x0 18)))) x0 19)) 2 ∧ (vp_in (((up (up (up (up (up (up I2 x0 11 (0 : Int32)) x0 12 (0 : Int32)) x0 13 (0 : Int32)) x0 15 (0 : Int32)) x0 19 (((1 : Int32) - ((up (up (up (up I2 x0 11 (0 : Int32)) x0 12 (0 : Int32)) x0 13 (0 : Int32)) x0 15 (0 : Int32)) x0 18)))) (x0 + 8) (((up (up (up (up (up I2 x0 11 (0 : Int32)) x0 12 (0 : Int32)) x0 13 (0 : Int32)) x0 15 (0 : Int32)) x0 19 (((1 : Int32) - ((up (up (up (up I2 x0 11 (0 : Int32)) x0 12 (0 : Int32)) x0 13 (0 : Int32)) x0 15 (0 : Int32)) x0 18)))) x0 19)).toNatClampNeg (0 : Int32)) x0 19)) 2 ∧ (rW γ l m_X9_read 0 0 107 [some (.ref x0), none] [] (sh, (up (up (up (up (up (up (up (up I2 x0 11 (0 : Int32)) x0 12 (0 : Int32)) x0 13 (0 : Int32)) x0 15 (0 : Int32)) x0 19 (((1 : Int32) - ((up (up (up (up I2 x0 11 (0 : Int32)) x0 12 (0 : Int32)) x0 13 (0 : Int32)) x0 15 (0 : Int32)) x0 18)))) (x0 + 8) (((up (up (up (up (up I2 x0 11 (0 : Int32)) x0 12 (0 : Int32)) x0 13 (0 : Int32)) x0 15 (0 : Int32)) x0 19 (((1 : Int32) - ((up (up (up (up I2 x0 11 (0 : Int32)) x0 12 (0 : Int32)) x0 13 (0 : Int32)) x0 15 (0 : Int32)) x0 18)))) x0 19)).toNatClampNeg (0 : Int32)) (x0 + 14) (((up (up (up (up (up (up I2 x0 11 (0 : Int32)) x0 12 (0 : Int32)) x0 13 (0 : Int32)) x0 15 (0 : Int32)) x0 19 (((1 : Int32) - ((up (up (up (up I2 x0 11 (0 : Int32)) x0 12 (0 : Int32)) x0 13 (0 : Int32)) x0 15 (0 : Int32)) x0 18)))) (x0 + 8) (((up (up (up (up (up I2 x0 11 (0 : Int32)) x0 12 (0 : Int32)) x0 13 (0 : Int32)) x0 15 (0 : Int32)) x0 19 (((1 : Int32) - ((up (up (up (up I2 x0 11 (0 : Int32)) x0 12 (0 : Int32)) x0 13 (0 : Int32)) x0 15 (0 : Int32)) x0 18)))) x0 19)).toNatClampNeg (0 : Int32)) x0 19)).toNatClampNeg (0 : Int32)) x0 32 (((500 : Int32) * ((up (up (up (up (up (up (up I2 x0 11 (0 : Int32)) x0 12 (0 : Int32)) x0 13 (0 : Int32)) x0 15 (0 : Int32)) x0 19 (((1 : Int32) - ((up (up (up (up I2 x0 11 (0 : Int32)) x0 12 (0 : Int32)) x0 13 (0 : Int32)) x0 15 (0 : Int32)) x0 18)))) (x0 + 8) (((up (up (up (up (up I2 x0 11 (0 : Int32)) x0 12 (0 : Int32)) x0 13 (0 : Int32)) x0 15 (0 : Int32)) x0 19 (((1 : Int32) - ((up (up (up (up I2 x0 11 (0 : Int32)) x0 12 (0 : Int32)) x0 13 (0 : Int32)) x0 15 (0 : Int32)) x0 18)))) x0 19)).toNatClampNeg (0 : Int32)) (x0 + 14) (((up (up (up (up (up (up I2 x0 11 (0 : Int32)) x0 12 (0 : Int32)) x0 13 (0 : Int32)) x0 15 (0 : Int32)) x0 19 (((1 : Int32) - ((up (up (up (up I2 x0 11 (0 : Int32)) x0 12 (0 : Int32)) x0 13 (0 : Int32)) x0 15 (0 : Int32)) x0 18)))) (x0 + 8) (((up (up (up (up (up I2 x0 11 (0 : Int32)) x0 12 (0 : Int32)) x0 13 (0 : Int32)) x0 15 (0 : Int32)) x0 19 (((1 : Int32) - ((up (up (up (up I2 x0 11 (0 : Int32)) x0 12 (0 : Int32)) x0 13 (0 : Int32)) x0 15 (0 : Int32)) x0 18)))) x0 19)).toNatClampNeg (0 : Int32)) x0 19)).toNatClampNeg (0 : Int32)) x0 19)))), J3, R) Q))))) ∧ (¬ (I x0 4) ≤ x1 → (vp_in x1 2000 ∧ (vp_in x1 2000 ∧ (rW γ l m_X9_read 0 0 10 [some (.ref x0), some (.int (x1 + (1 : Int32)))] [] (sh, (up I (x0 + 2) x1.toNatClampNeg (vp_nar .byte ((I (x0 + 1) x1.toNatClampNeg)))), J, R) Q))))) :
    rW γ l m_X9_read 0 0 10 [some (.ref x0), some (.int x1)] [] (sh, I, J, R) Q := by
  by_cases p0 : (I x0 4) ≤ x1
  · have t := t.1 p0
    obtain ⟨I2, J3, m4, t⟩ := t
    obtain ⟨b5, t⟩ := t
    obtain ⟨b6, t⟩ := t
    obtain ⟨hf, r, t, q⟩ := t
    exact ⟨hf, r, b_X9_read_10  h_x0 (fun _ => m4) (fun _ => b5) (fun _ => b6) (fun _ => t) (fun y0 => absurd p0 y0) (fun y0 => absurd p0 y0) (fun y0 => absurd p0 y0), q⟩
  · have t := t.2 p0
    obtain ⟨b8, t⟩ := t
    obtain ⟨b9, t⟩ := t
    obtain ⟨hf, r, t, q⟩ := t
    exact ⟨hf, r, b_X9_read_10 (I2 := I) (J3 := J) h_x0 (fun y0 => absurd y0 p0) (fun y0 => absurd y0 p0) (fun y0 => absurd y0 p0) (fun y0 => absurd y0 p0) (fun _ => b8) (fun _ => b9) (fun _ => t), q⟩
abbrev s_X9_read_107 (γ : rG) (l : Launch) (x0 : Nat) (h : rHeap) (Q : rHeap → Option Value → Prop) : Prop := rW γ l m_X9_read 0 0 107 [some (.ref x0), none] [] h Q
theorem w_X9_read_107 {γ : rG} {l : Launch} {Q : rHeap → Option Value → Prop} {sh : Nat × (Nat → Nat) × (Nat → Nat)} {I : Nat → Nat → Int32} {J : Nat → Nat → Int64} {R : Nat → Nat → Option Nat} {x0 : Nat}
    (h_x0 : At9 sh R x0)
    (t : ((I x0 13) = 0 → (∃ (v4 : Int32), rMet γ l m_X9_is [.ref x0, .int (0 : Int32)] (sh, I, J, R) (sh, I, J, R) (some (.int v4)) ∧ ((v4 = 0 → (∃ (I7 : Nat → Nat → Int32), rMet γ l m_X9_tellRule [.ref x0] (sh, I, J, R) (sh, I7, J, R) none ∧ (rW γ l m_X9_read 0 0 107 [some (.ref x0), none] [] (sh, I7, J, R) Q))) ∧ (¬ v4 = 0 → (rW γ l m_X9_read 0 0 129 [some (.ref x0), none] [] (sh, I, J, R) Q))))) ∧ (¬ (I x0 13) = 0 → (rW γ l m_X9_read 0 0 129 [some (.ref x0), none] [] (sh, I, J, R) Q))) :
    rW γ l m_X9_read 0 0 107 [some (.ref x0), none] [] (sh, I, J, R) Q := by
  by_cases p0 : (I x0 13) = 0
  · have t := t.1 p0
    obtain ⟨v4, m3, t⟩ := t
    by_cases p1 : v4 = 0
    · have t := t.1 p1
      obtain ⟨I7, m8, t⟩ := t
      obtain ⟨hf, r, t, q⟩ := t
      exact ⟨hf, r, b_X9_read_107  h_x0 (fun y0 => absurd p0 y0) (fun _ => m3) (fun _ y1 => absurd p1 y1) (fun _ _ => m8) (fun _ _ => t), q⟩
    · have t := t.2 p1
      obtain ⟨hf, r, t, q⟩ := t
      exact ⟨hf, r, b_X9_read_107 (I7 := I) h_x0 (fun y0 => absurd p0 y0) (fun _ => m3) (fun _ _ => t) (fun _ y1 => absurd y1 p1) (fun _ y1 => absurd y1 p1), q⟩
  · have t := t.2 p0
    obtain ⟨hf, r, t, q⟩ := t
    exact ⟨hf, r, b_X9_read_107 (v4 := 0) (I7 := I) h_x0 (fun _ => t) (fun y0 => absurd y0 p0) (fun y0 _ => absurd y0 p0) (fun y0 _ => absurd y0 p0) (fun y0 _ => absurd y0 p0), q⟩
abbrev s_X9_read_129 (γ : rG) (l : Launch) (x0 : Nat) (h : rHeap) (Q : rHeap → Option Value → Prop) : Prop := rW γ l m_X9_read 0 0 129 [some (.ref x0), none] [] h Q
theorem w_X9_read_129 {γ : rG} {l : Launch} {Q : rHeap → Option Value → Prop} {sh : Nat × (Nat → Nat) × (Nat → Nat)} {I : Nat → Nat → Int32} {J : Nat → Nat → Int64} {R : Nat → Nat → Option Nat} {x0 : Nat}
    (h_x0 : At9 sh R x0)
    (t : ((I x0 13) ≤ 0 → (rW γ l m_X9_read 0 0 145 [some (.ref x0), none] [.int (-1 : Int32), .ref x0] (sh, I, J, R) Q)) ∧ (¬ (I x0 13) ≤ 0 → (rW γ l m_X9_read 0 0 145 [some (.ref x0), none] [.int (I x0 14), .ref x0] (sh, I, J, R) Q))) :
    rW γ l m_X9_read 0 0 129 [some (.ref x0), none] [] (sh, I, J, R) Q := by
  by_cases p0 : (I x0 13) ≤ 0
  · have t := t.1 p0
    obtain ⟨hf, r, t, q⟩ := t
    exact ⟨hf, r, b_X9_read_129  h_x0 (fun _ => t) (fun y0 => absurd p0 y0), q⟩
  · have t := t.2 p0
    obtain ⟨hf, r, t, q⟩ := t
    exact ⟨hf, r, b_X9_read_129  h_x0 (fun y0 => absurd y0 p0) (fun _ => t), q⟩
abbrev s_X9_read_145 (γ : rG) (l : Launch) (x0 : Nat) (s0 : Int32) (s1 : Nat) (h : rHeap) (Q : rHeap → Option Value → Prop) : Prop := rW γ l m_X9_read 0 0 145 [some (.ref x0), none] [.int s0, .ref s1] h Q
theorem w_X9_read_145 {γ : rG} {l : Launch} {Q : rHeap → Option Value → Prop} {sh : Nat × (Nat → Nat) × (Nat → Nat)} {I : Nat → Nat → Int32} {J : Nat → Nat → Int64} {R : Nat → Nat → Option Nat} {x0 : Nat} {s0 : Int32} {s1 : Nat}
    (h_x0 : At9 sh R x0)
    (h_s1 : At9 sh R s1)
    (t : (((up I s1 17 s0) x0 13) ≤ 0 → (Q (sh, (up (up I s1 17 s0) x0 18 (((up I s1 17 s0) x0 19))), J, R) (some (.int (0 : Int32))))) ∧ (¬ ((up I s1 17 s0) x0 13) ≤ 0 → (Q (sh, (up I s1 17 s0), J, R) (some (.int (((up I s1 17 s0) x0 13))))))) :
    rW γ l m_X9_read 0 0 145 [some (.ref x0), none] [.int s0, .ref s1] (sh, I, J, R) Q := by
  by_cases p0 : ((up I s1 17 s0) x0 13) ≤ 0
  · have t := t.1 p0
    exact ⟨_, _, b_X9_read_145  h_x0 h_s1 (fun _ => ⟨rfl, rfl⟩) (fun y0 => absurd p0 y0), t⟩
  · have t := t.2 p0
    exact ⟨_, _, b_X9_read_145  h_x0 h_s1 (fun y0 => absurd y0 p0) (fun _ => ⟨rfl, rfl⟩), t⟩
abbrev s_X9_place_0 (γ : rG) (l : Launch) (x0 : Nat) (h : rHeap) (Q : rHeap → Option Value → Prop) : Prop := rW γ l m_X9_place 0 0 0 [some (.ref x0)] [] h Q
theorem w_X9_place_0 {γ : rG} {l : Launch} {Q : rHeap → Option Value → Prop} {sh : Nat × (Nat → Nat) × (Nat → Nat)} {I : Nat → Nat → Int32} {J : Nat → Nat → Int64} {R : Nat → Nat → Option Nat} {x0 : Nat}
    (h_x0 : At9 sh R x0)
    (t : Q (sh, I, J, R) (some (.int (I x0 17)))) :
    rW γ l m_X9_place 0 0 0 [some (.ref x0)] [] (sh, I, J, R) Q := by
  exact ⟨_, _, b_X9_place_0  h_x0 ⟨rfl, rfl⟩, t⟩
abbrev s_X9_tellRule_0 (γ : rG) (l : Launch) (x0 : Nat) (h : rHeap) (Q : rHeap → Option Value → Prop) : Prop := rW γ l m_X9_tellRule 0 0 0 [some (.ref x0), none, none, none, none] [] h Q
theorem w_X9_tellRule_0 {γ : rG} {l : Launch} {Q : rHeap → Option Value → Prop} {sh : Nat × (Nat → Nat) × (Nat → Nat)} {I : Nat → Nat → Int32} {J : Nat → Nat → Int64} {R : Nat → Nat → Option Nat} {x0 : Nat}
    (h_x0 : At9 sh R x0)
    (t : ∃ (v2 : Int32), rMet γ l m_X9_is [.ref x0, .int (20 : Int32)] (sh, I, J, R) (sh, I, J, R) (some (.int v2)) ∧ ((v2 = 0 → (∃ (v6 : Int32), rMet γ l m_X9_is [.ref x0, .int (22 : Int32)] (sh, I, J, R) (sh, I, J, R) (some (.int v6)) ∧ ((v6 = 0 → (∃ (v10 : Int32), rMet γ l m_X9_is [.ref x0, .int (23 : Int32)] (sh, I, J, R) (sh, I, J, R) (some (.int v10)) ∧ ((v10 = 0 → (∃ (v14 : Int32), rMet γ l m_X9_is [.ref x0, .int (24 : Int32)] (sh, I, J, R) (sh, I, J, R) (some (.int v14)) ∧ ((v14 = 0 → (∃ (v18 : Int32), rMet γ l m_X9_is [.ref x0, .int (25 : Int32)] (sh, I, J, R) (sh, I, J, R) (some (.int v18)) ∧ ((v18 = 0 → (∃ (v22 : Int32), rMet γ l m_X9_is [.ref x0, .int (26 : Int32)] (sh, I, J, R) (sh, I, J, R) (some (.int v22)) ∧ ((v22 = 0 → (rW γ l m_X9_tellRule 0 0 59 [some (.ref x0), none, none, none, none] [.int (0 : Int32)] (sh, I, J, R) Q)) ∧ (¬ v22 = 0 → (rW γ l m_X9_tellRule 0 0 54 [some (.ref x0), none, none, none, none] [] (sh, I, J, R) Q))))) ∧ (¬ v18 = 0 → (rW γ l m_X9_tellRule 0 0 54 [some (.ref x0), none, none, none, none] [] (sh, I, J, R) Q))))) ∧ (¬ v14 = 0 → (rW γ l m_X9_tellRule 0 0 54 [some (.ref x0), none, none, none, none] [] (sh, I, J, R) Q))))) ∧ (¬ v10 = 0 → (rW γ l m_X9_tellRule 0 0 54 [some (.ref x0), none, none, none, none] [] (sh, I, J, R) Q))))) ∧ (¬ v6 = 0 → (rW γ l m_X9_tellRule 0 0 54 [some (.ref x0), none, none, none, none] [] (sh, I, J, R) Q))))) ∧ (¬ v2 = 0 → (rW γ l m_X9_tellRule 0 0 54 [some (.ref x0), none, none, none, none] [] (sh, I, J, R) Q)))) :
    rW γ l m_X9_tellRule 0 0 0 [some (.ref x0), none, none, none, none] [] (sh, I, J, R) Q := by
  obtain ⟨v2, m1, t⟩ := t
  by_cases p0 : v2 = 0
  · have t := t.1 p0
    obtain ⟨v6, m5, t⟩ := t
    by_cases p1 : v6 = 0
    · have t := t.1 p1
      obtain ⟨v10, m9, t⟩ := t
      by_cases p2 : v10 = 0
      · have t := t.1 p2
        obtain ⟨v14, m13, t⟩ := t
        by_cases p3 : v14 = 0
        · have t := t.1 p3
          obtain ⟨v18, m17, t⟩ := t
          by_cases p4 : v18 = 0
          · have t := t.1 p4
            obtain ⟨v22, m21, t⟩ := t
            by_cases p5 : v22 = 0
            · have t := t.1 p5
              obtain ⟨hf, r, t, q⟩ := t
              exact ⟨hf, r, b_X9_tellRule_0  h_x0 m1 (fun y0 => absurd p0 y0) (fun _ => m5) (fun _ y1 => absurd p1 y1) (fun _ _ => m9) (fun _ _ y2 => absurd p2 y2) (fun _ _ _ => m13) (fun _ _ _ y3 => absurd p3 y3) (fun _ _ _ _ => m17) (fun _ _ _ _ y4 => absurd p4 y4) (fun _ _ _ _ _ => m21) (fun _ _ _ _ _ _ => t) (fun _ _ _ _ _ y5 => absurd p5 y5), q⟩
            · have t := t.2 p5
              obtain ⟨hf, r, t, q⟩ := t
              exact ⟨hf, r, b_X9_tellRule_0  h_x0 m1 (fun y0 => absurd p0 y0) (fun _ => m5) (fun _ y1 => absurd p1 y1) (fun _ _ => m9) (fun _ _ y2 => absurd p2 y2) (fun _ _ _ => m13) (fun _ _ _ y3 => absurd p3 y3) (fun _ _ _ _ => m17) (fun _ _ _ _ y4 => absurd p4 y4) (fun _ _ _ _ _ => m21) (fun _ _ _ _ _ y5 => absurd y5 p5) (fun _ _ _ _ _ _ => t), q⟩
          · have t := t.2 p4
            obtain ⟨hf, r, t, q⟩ := t
            exact ⟨hf, r, b_X9_tellRule_0 (v22 := 0) h_x0 m1 (fun y0 => absurd p0 y0) (fun _ => m5) (fun _ y1 => absurd p1 y1) (fun _ _ => m9) (fun _ _ y2 => absurd p2 y2) (fun _ _ _ => m13) (fun _ _ _ y3 => absurd p3 y3) (fun _ _ _ _ => m17) (fun _ _ _ _ _ => t) (fun _ _ _ _ y4 => absurd y4 p4) (fun _ _ _ _ y4 _ => absurd y4 p4) (fun _ _ _ _ y4 _ => absurd y4 p4), q⟩
        · have t := t.2 p3
          obtain ⟨hf, r, t, q⟩ := t
          exact ⟨hf, r, b_X9_tellRule_0 (v18 := 0) (v22 := 0) h_x0 m1 (fun y0 => absurd p0 y0) (fun _ => m5) (fun _ y1 => absurd p1 y1) (fun _ _ => m9) (fun _ _ y2 => absurd p2 y2) (fun _ _ _ => m13) (fun _ _ _ _ => t) (fun _ _ _ y3 => absurd y3 p3) (fun _ _ _ y3 _ => absurd y3 p3) (fun _ _ _ y3 _ => absurd y3 p3) (fun _ _ _ y3 _ _ => absurd y3 p3) (fun _ _ _ y3 _ _ => absurd y3 p3), q⟩
      · have t := t.2 p2
        obtain ⟨hf, r, t, q⟩ := t
        exact ⟨hf, r, b_X9_tellRule_0 (v14 := 0) (v18 := 0) (v22 := 0) h_x0 m1 (fun y0 => absurd p0 y0) (fun _ => m5) (fun _ y1 => absurd p1 y1) (fun _ _ => m9) (fun _ _ _ => t) (fun _ _ y2 => absurd y2 p2) (fun _ _ y2 _ => absurd y2 p2) (fun _ _ y2 _ => absurd y2 p2) (fun _ _ y2 _ _ => absurd y2 p2) (fun _ _ y2 _ _ => absurd y2 p2) (fun _ _ y2 _ _ _ => absurd y2 p2) (fun _ _ y2 _ _ _ => absurd y2 p2), q⟩
    · have t := t.2 p1
      obtain ⟨hf, r, t, q⟩ := t
      exact ⟨hf, r, b_X9_tellRule_0 (v10 := 0) (v14 := 0) (v18 := 0) (v22 := 0) h_x0 m1 (fun y0 => absurd p0 y0) (fun _ => m5) (fun _ _ => t) (fun _ y1 => absurd y1 p1) (fun _ y1 _ => absurd y1 p1) (fun _ y1 _ => absurd y1 p1) (fun _ y1 _ _ => absurd y1 p1) (fun _ y1 _ _ => absurd y1 p1) (fun _ y1 _ _ _ => absurd y1 p1) (fun _ y1 _ _ _ => absurd y1 p1) (fun _ y1 _ _ _ _ => absurd y1 p1) (fun _ y1 _ _ _ _ => absurd y1 p1), q⟩
  · have t := t.2 p0
    obtain ⟨hf, r, t, q⟩ := t
    exact ⟨hf, r, b_X9_tellRule_0 (v6 := 0) (v10 := 0) (v14 := 0) (v18 := 0) (v22 := 0) h_x0 m1 (fun _ => t) (fun y0 => absurd y0 p0) (fun y0 _ => absurd y0 p0) (fun y0 _ => absurd y0 p0) (fun y0 _ _ => absurd y0 p0) (fun y0 _ _ => absurd y0 p0) (fun y0 _ _ _ => absurd y0 p0) (fun y0 _ _ _ => absurd y0 p0) (fun y0 _ _ _ _ => absurd y0 p0) (fun y0 _ _ _ _ => absurd y0 p0) (fun y0 _ _ _ _ _ => absurd y0 p0) (fun y0 _ _ _ _ _ => absurd y0 p0), q⟩
abbrev s_X9_tellRule_54 (γ : rG) (l : Launch) (x0 : Nat) (h : rHeap) (Q : rHeap → Option Value → Prop) : Prop := rW γ l m_X9_tellRule 0 0 54 [some (.ref x0), none, none, none, none] [] h Q
theorem w_X9_tellRule_54 {γ : rG} {l : Launch} {Q : rHeap → Option Value → Prop} {sh : Nat × (Nat → Nat) × (Nat → Nat)} {I : Nat → Nat → Int32} {J : Nat → Nat → Int64} {R : Nat → Nat → Option Nat} {x0 : Nat}
    (h_x0 : At9 sh R x0)
    (t : rW γ l m_X9_tellRule 0 0 59 [some (.ref x0), none, none, none, none] [.int (1 : Int32)] (sh, I, J, R) Q) :
    rW γ l m_X9_tellRule 0 0 54 [some (.ref x0), none, none, none, none] [] (sh, I, J, R) Q := by
  obtain ⟨hf, r, t, q⟩ := t
  exact ⟨hf, r, b_X9_tellRule_54  h_x0 t, q⟩
abbrev s_X9_tellRule_59 (γ : rG) (l : Launch) (x0 : Nat) (s0 : Int32) (h : rHeap) (Q : rHeap → Option Value → Prop) : Prop := rW γ l m_X9_tellRule 0 0 59 [some (.ref x0), none, none, none, none] [.int s0] h Q
theorem w_X9_tellRule_59 {γ : rG} {l : Launch} {Q : rHeap → Option Value → Prop} {sh : Nat × (Nat → Nat) × (Nat → Nat)} {I : Nat → Nat → Int32} {J : Nat → Nat → Int64} {R : Nat → Nat → Option Nat} {x0 : Nat} {s0 : Int32}
    (h_x0 : At9 sh R x0)
    (t : (s0 = 0 → (∃ (I8 : Nat → Nat → Int32), rMet γ l m_X9_fail [.ref x0, .int (1 : Int32)] (sh, I, J, R) (sh, I8, J, R) none ∧ (rW γ l m_X9_tellRule 0 0 91 [some (.ref x0), none, none, none, none] [] (sh, I8, J, R) Q))) ∧ (¬ s0 = 0 → (vp_in (I x0 19) 2 ∧ (((I (x0 + 8) (I x0 19).toNatClampNeg) = (16 : Int32) → (∃ (I5 : Nat → Nat → Int32), rMet γ l m_X9_fail [.ref x0, .int (2 : Int32)] (sh, I, J, R) (sh, I5, J, R) none ∧ (rW γ l m_X9_tellRule 0 0 91 [some (.ref x0), none, none, none, none] [] (sh, I5, J, R) Q))) ∧ (¬ (I (x0 + 8) (I x0 19).toNatClampNeg) = (16 : Int32) → (rW γ l m_X9_tellRule 0 0 91 [some (.ref x0), none, none, none, none] [] (sh, I, J, R) Q)))))) :
    rW γ l m_X9_tellRule 0 0 59 [some (.ref x0), none, none, none, none] [.int s0] (sh, I, J, R) Q := by
  by_cases p0 : s0 = 0
  · have t := t.1 p0
    obtain ⟨I8, m9, t⟩ := t
    obtain ⟨hf, r, t, q⟩ := t
    exact ⟨hf, r, b_X9_tellRule_59 (I5 := I) h_x0 (fun y0 => absurd p0 y0) (fun y0 _ => absurd p0 y0) (fun y0 _ => absurd p0 y0) (fun y0 _ => absurd p0 y0) (fun _ => m9) (fun _ => t), q⟩
  · have t := t.2 p0
    obtain ⟨b2, t⟩ := t
    by_cases p1 : (I (x0 + 8) (I x0 19).toNatClampNeg) = (16 : Int32)
    · have t := t.1 p1
      obtain ⟨I5, m6, t⟩ := t
      obtain ⟨hf, r, t, q⟩ := t
      exact ⟨hf, r, b_X9_tellRule_59 (I8 := I) h_x0 (fun _ => b2) (fun _ y1 => absurd p1 y1) (fun _ _ => m6) (fun _ _ => t) (fun y0 => absurd y0 p0) (fun y0 => absurd y0 p0), q⟩
    · have t := t.2 p1
      obtain ⟨hf, r, t, q⟩ := t
      exact ⟨hf, r, b_X9_tellRule_59 (I5 := I) (I8 := I) h_x0 (fun _ => b2) (fun _ _ => t) (fun _ y1 => absurd y1 p1) (fun _ y1 => absurd y1 p1) (fun y0 => absurd y0 p0) (fun y0 => absurd y0 p0), q⟩
abbrev s_X9_tellRule_91 (γ : rG) (l : Launch) (x0 : Nat) (h : rHeap) (Q : rHeap → Option Value → Prop) : Prop := rW γ l m_X9_tellRule 0 0 91 [some (.ref x0), none, none, none, none] [] h Q
theorem w_X9_tellRule_91 {γ : rG} {l : Launch} {Q : rHeap → Option Value → Prop} {sh : Nat × (Nat → Nat) × (Nat → Nat)} {I : Nat → Nat → Int32} {J : Nat → Nat → Int64} {R : Nat → Nat → Option Nat} {x0 : Nat}
    (h_x0 : At9 sh R x0)
    (t : ((I x0 13) ≤ 0 → (vp_in (I x0 19) 2 ∧ (∃ (v4 : Int32), rMet γ l m_X9_is [.ref x0, .int (20 : Int32)] (sh, I, J, R) (sh, I, J, R) (some (.int v4)) ∧ ((v4 = 0 → (vp_in (I x0 11) 403 ∧ (rW γ l m_X9_tellRule 0 0 149 [some (.ref x0), none, some (.int (((16 : Int32) * (I x0 19)) + (I (x0 + 8) (I x0 19).toNatClampNeg))), none, none] [.int (((I (x0 + 3) (I x0 11).toNatClampNeg) - (22 : Int32)) + (1 : Int32)), .int (((16 : Int32) * (I x0 19)) + (I (x0 + 8) (I x0 19).toNatClampNeg)), .ref (x0 + 9)] (sh, I, J, R) Q))) ∧ (¬ v4 = 0 → (rW γ l m_X9_tellRule 0 0 149 [some (.ref x0), none, some (.int (((16 : Int32) * (I x0 19)) + (I (x0 + 8) (I x0 19).toNatClampNeg))), none, none] [.int (0 : Int32), .int (((16 : Int32) * (I x0 19)) + (I (x0 + 8) (I x0 19).toNatClampNeg)), .ref (x0 + 9)] (sh, I, J, R) Q)))))) ∧ (¬ (I x0 13) ≤ 0 → (Q (sh, I, J, R) (none)))) :
    rW γ l m_X9_tellRule 0 0 91 [some (.ref x0), none, none, none, none] [] (sh, I, J, R) Q := by
  by_cases p0 : (I x0 13) ≤ 0
  · have t := t.1 p0
    obtain ⟨b2, t⟩ := t
    obtain ⟨v4, m3, t⟩ := t
    by_cases p1 : v4 = 0
    · have t := t.1 p1
      obtain ⟨b6, t⟩ := t
      obtain ⟨hf, r, t, q⟩ := t
      exact ⟨hf, r, b_X9_tellRule_91  h_x0 (fun _ => b2) (fun _ => m3) (fun _ _ => b6) (fun _ _ => t) (fun _ y1 => absurd p1 y1) (fun y0 => absurd p0 y0), q⟩
    · have t := t.2 p1
      obtain ⟨hf, r, t, q⟩ := t
      exact ⟨hf, r, b_X9_tellRule_91  h_x0 (fun _ => b2) (fun _ => m3) (fun _ y1 => absurd y1 p1) (fun _ y1 => absurd y1 p1) (fun _ _ => t) (fun y0 => absurd p0 y0), q⟩
  · have t := t.2 p0
    exact ⟨_, _, b_X9_tellRule_91 (v4 := 0) h_x0 (fun y0 => absurd y0 p0) (fun y0 => absurd y0 p0) (fun y0 _ => absurd y0 p0) (fun y0 _ => absurd y0 p0) (fun y0 _ => absurd y0 p0) (fun _ => ⟨rfl, rfl⟩), t⟩
abbrev s_X9_tellRule_149 (γ : rG) (l : Launch) (x0 : Nat) (x2 : Int32) (s0 : Int32) (s1 : Int32) (s2 : Nat) (h : rHeap) (Q : rHeap → Option Value → Prop) : Prop := rW γ l m_X9_tellRule 0 0 149 [some (.ref x0), none, some (.int x2), none, none] [.int s0, .int s1, .ref s2] h Q
theorem w_X9_tellRule_149 {γ : rG} {l : Launch} {Q : rHeap → Option Value → Prop} {sh : Nat × (Nat → Nat) × (Nat → Nat)} {I : Nat → Nat → Int32} {J : Nat → Nat → Int64} {R : Nat → Nat → Option Nat} {x0 : Nat} {x2 : Int32} {s0 : Int32} {s1 : Int32} {s2 : Nat} {n_s2 : Nat}
    (h_x0 : At9 sh R x0)
    (h_s2 : rK sh s2 11)
    (g_s2 : sh.2.2 s2 = n_s2)
    (t : vp_in s1 n_s2 ∧ (∃ (I2 : Nat → Nat → Int32), rMet γ l m_X9_next [.ref x0] (sh, (up I s2 s1.toNatClampNeg s0), J, R) (sh, I2, J, R) none ∧ (vp_in x2 32 ∧ (∃ (I5 : Nat → Nat → Int32), rMet γ l m_X9_expression [.ref x0] (sh, (up I2 (x0 + 10) x2.toNatClampNeg (I2 x0 32)), J, R) (sh, I5, J, R) none ∧ (vp_in x2 32 ∧ (vp_in (((up I5 (x0 + 11) x2.toNatClampNeg (I5 x0 32)) x0 19)) 2 ∧ (vp_in x2 32 ∧ (∃ (v11 : Int32), rMet γ l m_X9_is [.ref x0, .int (21 : Int32)] (sh, (up (up I5 (x0 + 11) x2.toNatClampNeg (I5 x0 32)) (x0 + 12) x2.toNatClampNeg (((up I5 (x0 + 11) x2.toNatClampNeg (I5 x0 32)) (x0 + 14) (((up I5 (x0 + 11) x2.toNatClampNeg (I5 x0 32)) x0 19)).toNatClampNeg))), J, R) (sh, (up (up I5 (x0 + 11) x2.toNatClampNeg (I5 x0 32)) (x0 + 12) x2.toNatClampNeg (((up I5 (x0 + 11) x2.toNatClampNeg (I5 x0 32)) (x0 + 14) (((up I5 (x0 + 11) x2.toNatClampNeg (I5 x0 32)) x0 19)).toNatClampNeg))), J, R) (some (.int v11)) ∧ ((v11 = 0 → (rW γ l m_X9_tellRule 0 0 211 [some (.ref x0), none, some (.int x2), some (.int v11), some (.int (1 : Int32))] [] (sh, (up (up I5 (x0 + 11) x2.toNatClampNeg (I5 x0 32)) (x0 + 12) x2.toNatClampNeg (((up I5 (x0 + 11) x2.toNatClampNeg (I5 x0 32)) (x0 + 14) (((up I5 (x0 + 11) x2.toNatClampNeg (I5 x0 32)) x0 19)).toNatClampNeg))), J, R) Q)) ∧ (¬ v11 = 0 → (∃ (I14 : Nat → Nat → Int32), rMet γ l m_X9_next [.ref x0] (sh, (up (up I5 (x0 + 11) x2.toNatClampNeg (I5 x0 32)) (x0 + 12) x2.toNatClampNeg (((up I5 (x0 + 11) x2.toNatClampNeg (I5 x0 32)) (x0 + 14) (((up I5 (x0 + 11) x2.toNatClampNeg (I5 x0 32)) x0 19)).toNatClampNeg))), J, R) (sh, I14, J, R) none ∧ (rW γ l m_X9_tellRule 0 0 211 [some (.ref x0), none, some (.int x2), some (.int v11), some (.int (1 : Int32))] [] (sh, I14, J, R) Q)))))))))))) :
    rW γ l m_X9_tellRule 0 0 149 [some (.ref x0), none, some (.int x2), none, none] [.int s0, .int s1, .ref s2] (sh, I, J, R) Q := by
  obtain ⟨b1, t⟩ := t
  obtain ⟨I2, m3, t⟩ := t
  obtain ⟨b4, t⟩ := t
  obtain ⟨I5, m6, t⟩ := t
  obtain ⟨b7, t⟩ := t
  obtain ⟨b8, t⟩ := t
  obtain ⟨b9, t⟩ := t
  obtain ⟨v11, m10, t⟩ := t
  by_cases p0 : v11 = 0
  · have t := t.1 p0
    obtain ⟨hf, r, t, q⟩ := t
    exact ⟨hf, r, b_X9_tellRule_149 (I14 := I) h_x0 h_s2 g_s2 b1 m3 b4 m6 b7 b8 b9 m10 (fun _ => t) (fun y0 => absurd p0 y0) (fun y0 => absurd p0 y0), q⟩
  · have t := t.2 p0
    obtain ⟨I14, m15, t⟩ := t
    obtain ⟨hf, r, t, q⟩ := t
    exact ⟨hf, r, b_X9_tellRule_149  h_x0 h_s2 g_s2 b1 m3 b4 m6 b7 b8 b9 m10 (fun y0 => absurd y0 p0) (fun _ => m15) (fun _ => t), q⟩
abbrev s_X9_tellRule_211 (γ : rG) (l : Launch) (x0 : Nat) (x2 : Int32) (x3 : Int32) (x4 : Int32) (h : rHeap) (Q : rHeap → Option Value → Prop) : Prop := rW γ l m_X9_tellRule 0 0 211 [some (.ref x0), none, some (.int x2), some (.int x3), some (.int x4)] [] h Q
theorem w_X9_tellRule_211 {γ : rG} {l : Launch} {Q : rHeap → Option Value → Prop} {sh : Nat × (Nat → Nat) × (Nat → Nat)} {I : Nat → Nat → Int32} {J : Nat → Nat → Int64} {R : Nat → Nat → Option Nat} {x0 : Nat} {x2 : Int32} {x3 : Int32} {x4 : Int32}
    (h_x0 : At9 sh R x0)
    (t : (x3 = 0 → (rW γ l m_X9_tellRule 0 0 267 [some (.ref x0), none, some (.int x2), none, none] [] (sh, I, J, R) Q)) ∧ (¬ x3 = 0 → (((I x0 13) = 0 → (∃ (I5 : Nat → Nat → Int32), rMet γ l m_X9_relation [.ref x0, .int x4] (sh, I, J, R) (sh, I5, J, R) none ∧ (∃ (v8 : Int32), rMet γ l m_X9_is [.ref x0, .int (27 : Int32)] (sh, I5, J, R) (sh, I5, J, R) (some (.int v8)) ∧ ((v8 = 0 → (∃ (v15 : Int32), rMet γ l m_X9_is [.ref x0, .int (28 : Int32)] (sh, I5, J, R) (sh, I5, J, R) (some (.int v15)) ∧ ((v15 = 0 → (rW γ l m_X9_tellRule 0 0 211 [some (.ref x0), none, some (.int x2), some (.int (0 : Int32)), some (.int v8)] [] (sh, I5, J, R) Q)) ∧ (¬ v15 = 0 → (∃ (I20 : Nat → Nat → Int32), rMet γ l m_X9_next [.ref x0] (sh, I5, J, R) (sh, I20, J, R) none ∧ (rW γ l m_X9_tellRule 0 0 211 [some (.ref x0), none, some (.int x2), some (.int (1 : Int32)), some (.int v8)] [] (sh, I20, J, R) Q)))))) ∧ (¬ v8 = 0 → (∃ (I11 : Nat → Nat → Int32), rMet γ l m_X9_next [.ref x0] (sh, I5, J, R) (sh, I11, J, R) none ∧ (rW γ l m_X9_tellRule 0 0 211 [some (.ref x0), none, some (.int x2), some (.int (1 : Int32)), some (.int v8)] [] (sh, I11, J, R) Q))))))) ∧ (¬ (I x0 13) = 0 → (rW γ l m_X9_tellRule 0 0 267 [some (.ref x0), none, some (.int x2), none, none] [] (sh, I, J, R) Q))))) :
    rW γ l m_X9_tellRule 0 0 211 [some (.ref x0), none, some (.int x2), some (.int x3), some (.int x4)] [] (sh, I, J, R) Q := by
  by_cases p0 : x3 = 0
  · have t := t.1 p0
    obtain ⟨hf, r, t, q⟩ := t
    exact ⟨hf, r, b_X9_tellRule_211 (I5 := I) (v8 := 0) (I11 := I) (v15 := 0) (I20 := I) h_x0 (fun _ => t) (fun y0 _ => absurd p0 y0) (fun y0 _ => absurd p0 y0) (fun y0 _ => absurd p0 y0) (fun y0 _ _ => absurd p0 y0) (fun y0 _ _ => absurd p0 y0) (fun y0 _ _ => absurd p0 y0) (fun y0 _ _ _ => absurd p0 y0) (fun y0 _ _ _ => absurd p0 y0) (fun y0 _ _ _ => absurd p0 y0), q⟩
  · have t := t.2 p0
    by_cases p1 : (I x0 13) = 0
    · have t := t.1 p1
      obtain ⟨I5, m6, t⟩ := t
      obtain ⟨v8, m7, t⟩ := t
      by_cases p2 : v8 = 0
      · have t := t.1 p2
        obtain ⟨v15, m14, t⟩ := t
        by_cases p3 : v15 = 0
        · have t := t.1 p3
          obtain ⟨hf, r, t, q⟩ := t
          exact ⟨hf, r, b_X9_tellRule_211 (I11 := I) (I20 := I) h_x0 (fun y0 => absurd y0 p0) (fun _ y1 => absurd p1 y1) (fun _ _ => m6) (fun _ _ => m7) (fun _ _ y2 => absurd p2 y2) (fun _ _ y2 => absurd p2 y2) (fun _ _ _ => m14) (fun _ _ _ _ => t) (fun _ _ _ y3 => absurd p3 y3) (fun _ _ _ y3 => absurd p3 y3), q⟩
        · have t := t.2 p3
          obtain ⟨I20, m21, t⟩ := t
          obtain ⟨hf, r, t, q⟩ := t
          exact ⟨hf, r, b_X9_tellRule_211 (I11 := I) h_x0 (fun y0 => absurd y0 p0) (fun _ y1 => absurd p1 y1) (fun _ _ => m6) (fun _ _ => m7) (fun _ _ y2 => absurd p2 y2) (fun _ _ y2 => absurd p2 y2) (fun _ _ _ => m14) (fun _ _ _ y3 => absurd y3 p3) (fun _ _ _ _ => m21) (fun _ _ _ _ => t), q⟩
      · have t := t.2 p2
        obtain ⟨I11, m12, t⟩ := t
        obtain ⟨hf, r, t, q⟩ := t
        exact ⟨hf, r, b_X9_tellRule_211 (v15 := 0) (I20 := I) h_x0 (fun y0 => absurd y0 p0) (fun _ y1 => absurd p1 y1) (fun _ _ => m6) (fun _ _ => m7) (fun _ _ _ => m12) (fun _ _ _ => t) (fun _ _ y2 => absurd y2 p2) (fun _ _ y2 _ => absurd y2 p2) (fun _ _ y2 _ => absurd y2 p2) (fun _ _ y2 _ => absurd y2 p2), q⟩
    · have t := t.2 p1
      obtain ⟨hf, r, t, q⟩ := t
      exact ⟨hf, r, b_X9_tellRule_211 (I5 := I) (v8 := 0) (I11 := I) (v15 := 0) (I20 := I) h_x0 (fun y0 => absurd y0 p0) (fun _ _ => t) (fun _ y1 => absurd y1 p1) (fun _ y1 => absurd y1 p1) (fun _ y1 _ => absurd y1 p1) (fun _ y1 _ => absurd y1 p1) (fun _ y1 _ => absurd y1 p1) (fun _ y1 _ _ => absurd y1 p1) (fun _ y1 _ _ => absurd y1 p1) (fun _ y1 _ _ => absurd y1 p1), q⟩
abbrev s_X9_tellRule_267 (γ : rG) (l : Launch) (x0 : Nat) (x2 : Int32) (h : rHeap) (Q : rHeap → Option Value → Prop) : Prop := rW γ l m_X9_tellRule 0 0 267 [some (.ref x0), none, some (.int x2), none, none] [] h Q
theorem w_X9_tellRule_267 {γ : rG} {l : Launch} {Q : rHeap → Option Value → Prop} {sh : Nat × (Nat → Nat) × (Nat → Nat)} {I : Nat → Nat → Int32} {J : Nat → Nat → Int64} {R : Nat → Nat → Option Nat} {x0 : Nat} {x2 : Int32}
    (h_x0 : At9 sh R x0)
    (t : ∃ (I1 : Nat → Nat → Int32), rMet γ l m_X9_must [.ref x0, .int (4 : Int32)] (sh, I, J, R) (sh, I1, J, R) none ∧ (((I1 x0 13) ≤ 0 → (vp_in (I1 x0 19) 2 ∧ (vp_in x2 32 ∧ (vp_in (((up I1 (x0 + 13) x2.toNatClampNeg ((I1 (x0 + 14) (I1 x0 19).toNatClampNeg))) x0 19)) 2 ∧ (vp_in (((up I1 (x0 + 13) x2.toNatClampNeg ((I1 (x0 + 14) (I1 x0 19).toNatClampNeg))) x0 19)) 2 ∧ (Q (sh, (up (up I1 (x0 + 13) x2.toNatClampNeg ((I1 (x0 + 14) (I1 x0 19).toNatClampNeg))) (x0 + 8) (((up I1 (x0 + 13) x2.toNatClampNeg ((I1 (x0 + 14) (I1 x0 19).toNatClampNeg))) x0 19)).toNatClampNeg ((((up I1 (x0 + 13) x2.toNatClampNeg ((I1 (x0 + 14) (I1 x0 19).toNatClampNeg))) (x0 + 8) (((up I1 (x0 + 13) x2.toNatClampNeg ((I1 (x0 + 14) (I1 x0 19).toNatClampNeg))) x0 19)).toNatClampNeg) + (1 : Int32)))), J, R) (none))))))) ∧ (¬ (I1 x0 13) ≤ 0 → (Q (sh, I1, J, R) (none))))) :
    rW γ l m_X9_tellRule 0 0 267 [some (.ref x0), none, some (.int x2), none, none] [] (sh, I, J, R) Q := by
  obtain ⟨I1, m2, t⟩ := t
  by_cases p0 : (I1 x0 13) ≤ 0
  · have t := t.1 p0
    obtain ⟨b4, t⟩ := t
    obtain ⟨b5, t⟩ := t
    obtain ⟨b6, t⟩ := t
    obtain ⟨b7, t⟩ := t
    exact ⟨_, _, b_X9_tellRule_267  h_x0 m2 (fun _ => b4) (fun _ => b5) (fun _ => b6) (fun _ => b7) (fun _ => ⟨rfl, rfl⟩) (fun y0 => absurd p0 y0), t⟩
  · have t := t.2 p0
    exact ⟨_, _, b_X9_tellRule_267  h_x0 m2 (fun y0 => absurd y0 p0) (fun y0 => absurd y0 p0) (fun y0 => absurd y0 p0) (fun y0 => absurd y0 p0) (fun y0 => absurd y0 p0) (fun _ => ⟨rfl, rfl⟩), t⟩
abbrev s_X9_relation_0 (γ : rG) (l : Launch) (x0 : Nat) (x1 : Int32) (h : rHeap) (Q : rHeap → Option Value → Prop) : Prop := rW γ l m_X9_relation 0 0 0 [some (.ref x0), some (.int x1), none, none, none, none] [] h Q
theorem w_X9_relation_0 {γ : rG} {l : Launch} {Q : rHeap → Option Value → Prop} {sh : Nat × (Nat → Nat) × (Nat → Nat)} {I : Nat → Nat → Int32} {J : Nat → Nat → Int64} {R : Nat → Nat → Option Nat} {x0 : Nat} {x1 : Int32}
    (h_x0 : At9 sh R x0)
    (t : ∃ (I1 : Nat → Nat → Int32), rMet γ l m_X9_expression [.ref x0] (sh, I, J, R) (sh, I1, J, R) none ∧ (((I1 x0 13) ≤ 0 → (vp_in (I1 x0 11) 403 ∧ (rW γ l m_X9_relation 0 0 32 [some (.ref x0), some (.int x1), some (.int (I x0 32)), none, none, none] [.int ((I1 (x0 + 3) (I1 x0 11).toNatClampNeg) - (11 : Int32))] (sh, I1, J, R) Q))) ∧ (¬ (I1 x0 13) ≤ 0 → (rW γ l m_X9_relation 0 0 32 [some (.ref x0), some (.int x1), some (.int (I x0 32)), none, none, none] [.int (0 : Int32)] (sh, I1, J, R) Q)))) :
    rW γ l m_X9_relation 0 0 0 [some (.ref x0), some (.int x1), none, none, none, none] [] (sh, I, J, R) Q := by
  obtain ⟨I1, m2, t⟩ := t
  by_cases p0 : (I1 x0 13) ≤ 0
  · have t := t.1 p0
    obtain ⟨b4, t⟩ := t
    obtain ⟨hf, r, t, q⟩ := t
    exact ⟨hf, r, b_X9_relation_0  h_x0 m2 (fun _ => b4) (fun _ => t) (fun y0 => absurd p0 y0), q⟩
  · have t := t.2 p0
    obtain ⟨hf, r, t, q⟩ := t
    exact ⟨hf, r, b_X9_relation_0  h_x0 m2 (fun y0 => absurd y0 p0) (fun y0 => absurd y0 p0) (fun _ => t), q⟩
abbrev s_X9_relation_32 (γ : rG) (l : Launch) (x0 : Nat) (x1 : Int32) (x2 : Int32) (s0 : Int32) (h : rHeap) (Q : rHeap → Option Value → Prop) : Prop := rW γ l m_X9_relation 0 0 32 [some (.ref x0), some (.int x1), some (.int x2), none, none, none] [.int s0] h Q
theorem w_X9_relation_32 {γ : rG} {l : Launch} {Q : rHeap → Option Value → Prop} {sh : Nat × (Nat → Nat) × (Nat → Nat)} {I : Nat → Nat → Int32} {J : Nat → Nat → Int64} {R : Nat → Nat → Option Nat} {x0 : Nat} {x1 : Int32} {x2 : Int32} {s0 : Int32}
    (h_x0 : At9 sh R x0)
    (t : ((I x0 13) = 0 → ((s0 < 0 → (rW γ l m_X9_relation 0 0 49 [some (.ref x0), some (.int x1), some (.int x2), some (.int s0), none, none] [] (sh, I, J, R) Q)) ∧ (¬ s0 < 0 → ((s0 ≤ (3 : Int32) → (rW γ l m_X9_relation 0 0 54 [some (.ref x0), some (.int x1), some (.int x2), some (.int s0), none, none] [] (sh, I, J, R) Q)) ∧ (¬ s0 ≤ (3 : Int32) → (rW γ l m_X9_relation 0 0 49 [some (.ref x0), some (.int x1), some (.int x2), some (.int s0), none, none] [] (sh, I, J, R) Q)))))) ∧ (¬ (I x0 13) = 0 → (rW γ l m_X9_relation 0 0 54 [some (.ref x0), some (.int x1), some (.int x2), some (.int s0), none, none] [] (sh, I, J, R) Q))) :
    rW γ l m_X9_relation 0 0 32 [some (.ref x0), some (.int x1), some (.int x2), none, none, none] [.int s0] (sh, I, J, R) Q := by
  by_cases p0 : (I x0 13) = 0
  · have t := t.1 p0
    by_cases p1 : s0 < 0
    · have t := t.1 p1
      obtain ⟨hf, r, t, q⟩ := t
      exact ⟨hf, r, b_X9_relation_32  h_x0 (fun y0 => absurd p0 y0) (fun _ _ => t) (fun _ y1 _ => absurd p1 y1) (fun _ y1 _ => absurd p1 y1), q⟩
    · have t := t.2 p1
      by_cases p2 : s0 ≤ (3 : Int32)
      · have t := t.1 p2
        obtain ⟨hf, r, t, q⟩ := t
        exact ⟨hf, r, b_X9_relation_32  h_x0 (fun y0 => absurd p0 y0) (fun _ y1 => absurd y1 p1) (fun _ _ _ => t) (fun _ _ y2 => absurd p2 y2), q⟩
      · have t := t.2 p2
        obtain ⟨hf, r, t, q⟩ := t
        exact ⟨hf, r, b_X9_relation_32  h_x0 (fun y0 => absurd p0 y0) (fun _ y1 => absurd y1 p1) (fun _ _ y2 => absurd y2 p2) (fun _ _ _ => t), q⟩
  · have t := t.2 p0
    obtain ⟨hf, r, t, q⟩ := t
    exact ⟨hf, r, b_X9_relation_32  h_x0 (fun _ => t) (fun y0 _ => absurd y0 p0) (fun y0 _ _ => absurd y0 p0) (fun y0 _ _ => absurd y0 p0), q⟩
abbrev s_X9_relation_54 (γ : rG) (l : Launch) (x0 : Nat) (x1 : Int32) (x2 : Int32) (x3 : Int32) (h : rHeap) (Q : rHeap → Option Value → Prop) : Prop := rW γ l m_X9_relation 0 0 54 [some (.ref x0), some (.int x1), some (.int x2), some (.int x3), none, none] [] h Q
theorem w_X9_relation_54 {γ : rG} {l : Launch} {Q : rHeap → Option Value → Prop} {sh : Nat × (Nat → Nat) × (Nat → Nat)} {I : Nat → Nat → Int32} {J : Nat → Nat → Int64} {R : Nat → Nat → Option Nat} {x0 : Nat} {x1 : Int32} {x2 : Int32} {x3 : Int32}
    (h_x0 : At9 sh R x0)
    (t : ∃ (I1 : Nat → Nat → Int32), rMet γ l m_X9_next [.ref x0] (sh, I, J, R) (sh, I1, J, R) none ∧ (∃ (I3 : Nat → Nat → Int32), rMet γ l m_X9_expression [.ref x0] (sh, I1, J, R) (sh, I3, J, R) none ∧ (((I3 x0 13) ≤ 0 → (vp_in (I3 x0 19) 2 ∧ (vp_in ((((200 : Int32) * (I3 x0 19)) + (I3 (x0 + 14) (I3 x0 19).toNatClampNeg))) 400 ∧ (vp_in ((((200 : Int32) * (I3 x0 19)) + (I3 (x0 + 14) (I3 x0 19).toNatClampNeg))) 400 ∧ (vp_in ((((200 : Int32) * (I3 x0 19)) + (I3 (x0 + 14) (I3 x0 19).toNatClampNeg))) 400 ∧ (vp_in ((((200 : Int32) * (I3 x0 19)) + (I3 (x0 + 14) (I3 x0 19).toNatClampNeg))) 400 ∧ (vp_in ((((200 : Int32) * (I3 x0 19)) + (I3 (x0 + 14) (I3 x0 19).toNatClampNeg))) 400 ∧ (vp_in (((up (up (up (up (up I3 (x0 + 15) ((((200 : Int32) * (I3 x0 19)) + (I3 (x0 + 14) (I3 x0 19).toNatClampNeg))).toNatClampNeg x3) (x0 + 16) ((((200 : Int32) * (I3 x0 19)) + (I3 (x0 + 14) (I3 x0 19).toNatClampNeg))).toNatClampNeg x2) (x0 + 17) ((((200 : Int32) * (I3 x0 19)) + (I3 (x0 + 14) (I3 x0 19).toNatClampNeg))).toNatClampNeg (I1 x0 32)) (x0 + 18) ((((200 : Int32) * (I3 x0 19)) + (I3 (x0 + 14) (I3 x0 19).toNatClampNeg))).toNatClampNeg (((up (up (up I3 (x0 + 15) ((((200 : Int32) * (I3 x0 19)) + (I3 (x0 + 14) (I3 x0 19).toNatClampNeg))).toNatClampNeg x3) (x0 + 16) ((((200 : Int32) * (I3 x0 19)) + (I3 (x0 + 14) (I3 x0 19).toNatClampNeg))).toNatClampNeg x2) (x0 + 17) ((((200 : Int32) * (I3 x0 19)) + (I3 (x0 + 14) (I3 x0 19).toNatClampNeg))).toNatClampNeg (I1 x0 32)) x0 32))) (x0 + 19) ((((200 : Int32) * (I3 x0 19)) + (I3 (x0 + 14) (I3 x0 19).toNatClampNeg))).toNatClampNeg (vp_nar .boolean x1)) x0 19)) 2 ∧ (vp_in (((up (up (up (up (up I3 (x0 + 15) ((((200 : Int32) * (I3 x0 19)) + (I3 (x0 + 14) (I3 x0 19).toNatClampNeg))).toNatClampNeg x3) (x0 + 16) ((((200 : Int32) * (I3 x0 19)) + (I3 (x0 + 14) (I3 x0 19).toNatClampNeg))).toNatClampNeg x2) (x0 + 17) ((((200 : Int32) * (I3 x0 19)) + (I3 (x0 + 14) (I3 x0 19).toNatClampNeg))).toNatClampNeg (I1 x0 32)) (x0 + 18) ((((200 : Int32) * (I3 x0 19)) + (I3 (x0 + 14) (I3 x0 19).toNatClampNeg))).toNatClampNeg (((up (up (up I3 (x0 + 15) ((((200 : Int32) * (I3 x0 19)) + (I3 (x0 + 14) (I3 x0 19).toNatClampNeg))).toNatClampNeg x3) (x0 + 16) ((((200 : Int32) * (I3 x0 19)) + (I3 (x0 + 14) (I3 x0 19).toNatClampNeg))).toNatClampNeg x2) (x0 + 17) ((((200 : Int32) * (I3 x0 19)) + (I3 (x0 + 14) (I3 x0 19).toNatClampNeg))).toNatClampNeg (I1 x0 32)) x0 32))) (x0 + 19) ((((200 : Int32) * (I3 x0 19)) + (I3 (x0 + 14) (I3 x0 19).toNatClampNeg))).toNatClampNeg (vp_nar .boolean x1)) x0 19)) 2 ∧ (Q (sh, (up (up (up (up (up (up I3 (x0 + 15) ((((200 : Int32) * (I3 x0 19)) + (I3 (x0 + 14) (I3 x0 19).toNatClampNeg))).toNatClampNeg x3) (x0 + 16) ((((200 : Int32) * (I3 x0 19)) + (I3 (x0 + 14) (I3 x0 19).toNatClampNeg))).toNatClampNeg x2) (x0 + 17) ((((200 : Int32) * (I3 x0 19)) + (I3 (x0 + 14) (I3 x0 19).toNatClampNeg))).toNatClampNeg (I1 x0 32)) (x0 + 18) ((((200 : Int32) * (I3 x0 19)) + (I3 (x0 + 14) (I3 x0 19).toNatClampNeg))).toNatClampNeg (((up (up (up I3 (x0 + 15) ((((200 : Int32) * (I3 x0 19)) + (I3 (x0 + 14) (I3 x0 19).toNatClampNeg))).toNatClampNeg x3) (x0 + 16) ((((200 : Int32) * (I3 x0 19)) + (I3 (x0 + 14) (I3 x0 19).toNatClampNeg))).toNatClampNeg x2) (x0 + 17) ((((200 : Int32) * (I3 x0 19)) + (I3 (x0 + 14) (I3 x0 19).toNatClampNeg))).toNatClampNeg (I1 x0 32)) x0 32))) (x0 + 19) ((((200 : Int32) * (I3 x0 19)) + (I3 (x0 + 14) (I3 x0 19).toNatClampNeg))).toNatClampNeg (vp_nar .boolean x1)) (x0 + 14) (((up (up (up (up (up I3 (x0 + 15) ((((200 : Int32) * (I3 x0 19)) + (I3 (x0 + 14) (I3 x0 19).toNatClampNeg))).toNatClampNeg x3) (x0 + 16) ((((200 : Int32) * (I3 x0 19)) + (I3 (x0 + 14) (I3 x0 19).toNatClampNeg))).toNatClampNeg x2) (x0 + 17) ((((200 : Int32) * (I3 x0 19)) + (I3 (x0 + 14) (I3 x0 19).toNatClampNeg))).toNatClampNeg (I1 x0 32)) (x0 + 18) ((((200 : Int32) * (I3 x0 19)) + (I3 (x0 + 14) (I3 x0 19).toNatClampNeg))).toNatClampNeg (((up (up (up I3 (x0 + 15) ((((200 : Int32) * (I3 x0 19)) + (I3 (x0 + 14) (I3 x0 19).toNatClampNeg))).toNatClampNeg x3) (x0 + 16) ((((200 : Int32) * (I3 x0 19)) + (I3 (x0 + 14) (I3 x0 19).toNatClampNeg))).toNatClampNeg x2) (x0 + 17) ((((200 : Int32) * (I3 x0 19)) + (I3 (x0 + 14) (I3 x0 19).toNatClampNeg))).toNatClampNeg (I1 x0 32)) x0 32))) (x0 + 19) ((((200 : Int32) * (I3 x0 19)) + (I3 (x0 + 14) (I3 x0 19).toNatClampNeg))).toNatClampNeg (vp_nar .boolean x1)) x0 19)).toNatClampNeg ((((up (up (up (up (up I3 (x0 + 15) ((((200 : Int32) * (I3 x0 19)) + (I3 (x0 + 14) (I3 x0 19).toNatClampNeg))).toNatClampNeg x3) (x0 + 16) ((((200 : Int32) * (I3 x0 19)) + (I3 (x0 + 14) (I3 x0 19).toNatClampNeg))).toNatClampNeg x2) (x0 + 17) ((((200 : Int32) * (I3 x0 19)) + (I3 (x0 + 14) (I3 x0 19).toNatClampNeg))).toNatClampNeg (I1 x0 32)) (x0 + 18) ((((200 : Int32) * (I3 x0 19)) + (I3 (x0 + 14) (I3 x0 19).toNatClampNeg))).toNatClampNeg (((up (up (up I3 (x0 + 15) ((((200 : Int32) * (I3 x0 19)) + (I3 (x0 + 14) (I3 x0 19).toNatClampNeg))).toNatClampNeg x3) (x0 + 16) ((((200 : Int32) * (I3 x0 19)) + (I3 (x0 + 14) (I3 x0 19).toNatClampNeg))).toNatClampNeg x2) (x0 + 17) ((((200 : Int32) * (I3 x0 19)) + (I3 (x0 + 14) (I3 x0 19).toNatClampNeg))).toNatClampNeg (I1 x0 32)) x0 32))) (x0 + 19) ((((200 : Int32) * (I3 x0 19)) + (I3 (x0 + 14) (I3 x0 19).toNatClampNeg))).toNatClampNeg (vp_nar .boolean x1)) (x0 + 14) (((up (up (up (up (up I3 (x0 + 15) ((((200 : Int32) * (I3 x0 19)) + (I3 (x0 + 14) (I3 x0 19).toNatClampNeg))).toNatClampNeg x3) (x0 + 16) ((((200 : Int32) * (I3 x0 19)) + (I3 (x0 + 14) (I3 x0 19).toNatClampNeg))).toNatClampNeg x2) (x0 + 17) ((((200 : Int32) * (I3 x0 19)) + (I3 (x0 + 14) (I3 x0 19).toNatClampNeg))).toNatClampNeg (I1 x0 32)) (x0 + 18) ((((200 : Int32) * (I3 x0 19)) + (I3 (x0 + 14) (I3 x0 19).toNatClampNeg))).toNatClampNeg (((up (up (up I3 (x0 + 15) ((((200 : Int32) * (I3 x0 19)) + (I3 (x0 + 14) (I3 x0 19).toNatClampNeg))).toNatClampNeg x3) (x0 + 16) ((((200 : Int32) * (I3 x0 19)) + (I3 (x0 + 14) (I3 x0 19).toNatClampNeg))).toNatClampNeg x2) (x0 + 17) ((((200 : Int32) * (I3 x0 19)) + (I3 (x0 + 14) (I3 x0 19).toNatClampNeg))).toNatClampNeg (I1 x0 32)) x0 32))) (x0 + 19) ((((200 : Int32) * (I3 x0 19)) + (I3 (x0 + 14) (I3 x0 19).toNatClampNeg))).toNatClampNeg (vp_nar .boolean x1)) x0 19)).toNatClampNeg) + (1 : Int32)))), J, R) (none))))))))))) ∧ (¬ (I3 x0 13) ≤ 0 → (Q (sh, I3, J, R) (none)))))) :
    rW γ l m_X9_relation 0 0 54 [some (.ref x0), some (.int x1), some (.int x2), some (.int x3), none, none] [] (sh, I, J, R) Q := by
  obtain ⟨I1, m2, t⟩ := t
  obtain ⟨I3, m4, t⟩ := t
  by_cases p0 : (I3 x0 13) ≤ 0
  · have t := t.1 p0
    obtain ⟨b6, t⟩ := t
    obtain ⟨b7, t⟩ := t
    obtain ⟨b8, t⟩ := t
    obtain ⟨b9, t⟩ := t
    obtain ⟨b10, t⟩ := t
    obtain ⟨b11, t⟩ := t
    obtain ⟨b12, t⟩ := t
    obtain ⟨b13, t⟩ := t
    exact ⟨_, _, b_X9_relation_54  h_x0 m2 m4 (fun _ => b6) (fun _ => b7) (fun _ => b8) (fun _ => b9) (fun _ => b10) (fun _ => b11) (fun _ => b12) (fun _ => b13) (fun _ => ⟨rfl, rfl⟩) (fun y0 => absurd p0 y0), t⟩
  · have t := t.2 p0
    exact ⟨_, _, b_X9_relation_54  h_x0 m2 m4 (fun y0 => absurd y0 p0) (fun y0 => absurd y0 p0) (fun y0 => absurd y0 p0) (fun y0 => absurd y0 p0) (fun y0 => absurd y0 p0) (fun y0 => absurd y0 p0) (fun y0 => absurd y0 p0) (fun y0 => absurd y0 p0) (fun y0 => absurd y0 p0) (fun _ => ⟨rfl, rfl⟩), t⟩
abbrev s_X9_relation_49 (γ : rG) (l : Launch) (x0 : Nat) (x1 : Int32) (x2 : Int32) (x3 : Int32) (h : rHeap) (Q : rHeap → Option Value → Prop) : Prop := rW γ l m_X9_relation 0 0 49 [some (.ref x0), some (.int x1), some (.int x2), some (.int x3), none, none] [] h Q
theorem w_X9_relation_49 {γ : rG} {l : Launch} {Q : rHeap → Option Value → Prop} {sh : Nat × (Nat → Nat) × (Nat → Nat)} {I : Nat → Nat → Int32} {J : Nat → Nat → Int64} {R : Nat → Nat → Option Nat} {x0 : Nat} {x1 : Int32} {x2 : Int32} {x3 : Int32}
    (h_x0 : At9 sh R x0)
    (t : ∃ (I1 : Nat → Nat → Int32), rMet γ l m_X9_fail [.ref x0, .int (1 : Int32)] (sh, I, J, R) (sh, I1, J, R) none ∧ (rW γ l m_X9_relation 0 0 54 [some (.ref x0), some (.int x1), some (.int x2), some (.int x3), none, none] [] (sh, I1, J, R) Q)) :
    rW γ l m_X9_relation 0 0 49 [some (.ref x0), some (.int x1), some (.int x2), some (.int x3), none, none] [] (sh, I, J, R) Q := by
  obtain ⟨I1, m2, t⟩ := t
  obtain ⟨hf, r, t, q⟩ := t
  exact ⟨hf, r, b_X9_relation_49  h_x0 m2 t, q⟩
abbrev s_X9_emit_0 (γ : rG) (l : Launch) (x0 : Nat) (x1 : Int32) (x2 : Int32) (h : rHeap) (Q : rHeap → Option Value → Prop) : Prop := rW γ l m_X9_emit 0 0 0 [some (.ref x0), some (.int x1), some (.int x2)] [] h Q
theorem w_X9_emit_0 {γ : rG} {l : Launch} {Q : rHeap → Option Value → Prop} {sh : Nat × (Nat → Nat) × (Nat → Nat)} {I : Nat → Nat → Int32} {J : Nat → Nat → Int64} {R : Nat → Nat → Option Nat} {x0 : Nat} {x1 : Int32} {x2 : Int32}
    (h_x0 : At9 sh R x0)
    (t : vp_in (I x0 32) 1000 ∧ (vp_in (((up I (x0 + 20) (I x0 32).toNatClampNeg x1) x0 32)) 1000 ∧ (Q (sh, (up (up (up I (x0 + 20) (I x0 32).toNatClampNeg x1) (x0 + 21) (((up I (x0 + 20) (I x0 32).toNatClampNeg x1) x0 32)).toNatClampNeg x2) x0 32 ((((up (up I (x0 + 20) (I x0 32).toNatClampNeg x1) (x0 + 21) (((up I (x0 + 20) (I x0 32).toNatClampNeg x1) x0 32)).toNatClampNeg x2) x0 32) + (1 : Int32)))), J, R) (none)))) :
    rW γ l m_X9_emit 0 0 0 [some (.ref x0), some (.int x1), some (.int x2)] [] (sh, I, J, R) Q := by
  obtain ⟨b1, t⟩ := t
  obtain ⟨b2, t⟩ := t
  exact ⟨_, _, b_X9_emit_0  h_x0 b1 b2 ⟨rfl, rfl⟩, t⟩
abbrev s_X9_comesOut_0 (γ : rG) (l : Launch) (x0 : Nat) (x1 : Int32) (h : rHeap) (Q : rHeap → Option Value → Prop) : Prop := rW γ l m_X9_comesOut 0 0 0 [some (.ref x0), some (.int x1), none] [] h Q
theorem w_X9_comesOut_0 {γ : rG} {l : Launch} {Q : rHeap → Option Value → Prop} {sh : Nat × (Nat → Nat) × (Nat → Nat)} {I : Nat → Nat → Int32} {J : Nat → Nat → Int64} {R : Nat → Nat → Option Nat} {x0 : Nat} {x1 : Int32}
    (h_x0 : At9 sh R x0)
    (t : ((I x0 36) ≤ 0 → (Q (sh, I, J, R) (none))) ∧ (¬ (I x0 36) ≤ 0 → (vp_in (((I x0 36) - (1 : Int32))) 48 ∧ (((I (x0 + 22) (((I x0 36) - (1 : Int32))).toNatClampNeg) = (6 : Int32) → (Q (sh, I, J, R) (none))) ∧ (¬ (I (x0 + 22) (((I x0 36) - (1 : Int32))).toNatClampNeg) = (6 : Int32) → ((x1 = 0 → (rW γ l m_X9_comesOut 0 0 43 [some (.ref x0), some (.int x1), none] [] (sh, I, J, R) Q)) ∧ (¬ x1 = 0 → (vp_in (((I x0 36) - (1 : Int32))) 48 ∧ (((I (x0 + 22) (((I x0 36) - (1 : Int32))).toNatClampNeg) = (10 : Int32) → (rW γ l m_X9_comesOut 0 0 43 [some (.ref x0), some (.int x1), none] [] (sh, I, J, R) Q)) ∧ (¬ (I (x0 + 22) (((I x0 36) - (1 : Int32))).toNatClampNeg) = (10 : Int32) → (Q (sh, I, J, R) (none)))))))))))) :
    rW γ l m_X9_comesOut 0 0 0 [some (.ref x0), some (.int x1), none] [] (sh, I, J, R) Q := by
  by_cases p0 : (I x0 36) ≤ 0
  · have t := t.1 p0
    exact ⟨_, _, b_X9_comesOut_0  h_x0 (fun _ => ⟨rfl, rfl⟩) (fun y0 => absurd p0 y0) (fun y0 _ => absurd p0 y0) (fun y0 _ _ => absurd p0 y0) (fun y0 _ _ => absurd p0 y0) (fun y0 _ _ _ => absurd p0 y0) (fun y0 _ _ _ => absurd p0 y0), t⟩
  · have t := t.2 p0
    obtain ⟨b3, t⟩ := t
    by_cases p1 : (I (x0 + 22) (((I x0 36) - (1 : Int32))).toNatClampNeg) = (6 : Int32)
    · have t := t.1 p1
      exact ⟨_, _, b_X9_comesOut_0  h_x0 (fun y0 => absurd y0 p0) (fun _ => b3) (fun _ _ => ⟨rfl, rfl⟩) (fun _ y1 _ => absurd p1 y1) (fun _ y1 _ => absurd p1 y1) (fun _ y1 _ _ => absurd p1 y1) (fun _ y1 _ _ => absurd p1 y1), t⟩
    · have t := t.2 p1
      by_cases p2 : x1 = 0
      · have t := t.1 p2
        obtain ⟨hf, r, t, q⟩ := t
        exact ⟨hf, r, b_X9_comesOut_0  h_x0 (fun y0 => absurd y0 p0) (fun _ => b3) (fun _ y1 => absurd y1 p1) (fun _ _ _ => t) (fun _ _ y2 => absurd p2 y2) (fun _ _ y2 _ => absurd p2 y2) (fun _ _ y2 _ => absurd p2 y2), q⟩
      · have t := t.2 p2
        obtain ⟨b8, t⟩ := t
        by_cases p3 : (I (x0 + 22) (((I x0 36) - (1 : Int32))).toNatClampNeg) = (10 : Int32)
        · have t := t.1 p3
          obtain ⟨hf, r, t, q⟩ := t
          exact ⟨hf, r, b_X9_comesOut_0  h_x0 (fun y0 => absurd y0 p0) (fun _ => b3) (fun _ y1 => absurd y1 p1) (fun _ _ y2 => absurd y2 p2) (fun _ _ _ => b8) (fun _ _ _ y3 => absurd p3 y3) (fun _ _ _ _ => t), q⟩
        · have t := t.2 p3
          exact ⟨_, _, b_X9_comesOut_0  h_x0 (fun y0 => absurd y0 p0) (fun _ => b3) (fun _ y1 => absurd y1 p1) (fun _ _ y2 => absurd y2 p2) (fun _ _ _ => b8) (fun _ _ _ _ => ⟨rfl, rfl⟩) (fun _ _ _ y3 => absurd y3 p3), t⟩
abbrev s_X9_comesOut_43 (γ : rG) (l : Launch) (x0 : Nat) (x1 : Int32) (h : rHeap) (Q : rHeap → Option Value → Prop) : Prop := rW γ l m_X9_comesOut 0 0 43 [some (.ref x0), some (.int x1), none] [] h Q
theorem w_X9_comesOut_43 {γ : rG} {l : Launch} {Q : rHeap → Option Value → Prop} {sh : Nat × (Nat → Nat) × (Nat → Nat)} {I : Nat → Nat → Int32} {J : Nat → Nat → Int64} {R : Nat → Nat → Option Nat} {x0 : Nat} {x1 : Int32}
    (h_x0 : At9 sh R x0)
    (t : vp_in (((up I x0 36 (((I x0 36) - (1 : Int32)))) x0 36)) 48 ∧ ((((up I x0 36 (((I x0 36) - (1 : Int32)))) (x0 + 22) (((up I x0 36 (((I x0 36) - (1 : Int32)))) x0 36)).toNatClampNeg) = (8 : Int32) → (∃ (I10 : Nat → Nat → Int32), rMet γ l m_X9_emit [.ref x0, .int (2 : Int32), .int (0 : Int32)] (sh, (up I x0 36 (((I x0 36) - (1 : Int32)))), J, R) (sh, I10, J, R) none ∧ (rW γ l m_X9_comesOut 0 0 0 [some (.ref x0), some (.int x1), none] [] (sh, I10, J, R) Q))) ∧ (¬ ((up I x0 36 (((I x0 36) - (1 : Int32)))) (x0 + 22) (((up I x0 36 (((I x0 36) - (1 : Int32)))) x0 36)).toNatClampNeg) = (8 : Int32) → ((((up I x0 36 (((I x0 36) - (1 : Int32)))) (x0 + 22) (((up I x0 36 (((I x0 36) - (1 : Int32)))) x0 36)).toNatClampNeg) = (9 : Int32) → (∃ (I7 : Nat → Nat → Int32), rMet γ l m_X9_emit [.ref x0, .int (3 : Int32), .int (0 : Int32)] (sh, (up I x0 36 (((I x0 36) - (1 : Int32)))), J, R) (sh, I7, J, R) none ∧ (rW γ l m_X9_comesOut 0 0 0 [some (.ref x0), some (.int x1), none] [] (sh, I7, J, R) Q))) ∧ (¬ ((up I x0 36 (((I x0 36) - (1 : Int32)))) (x0 + 22) (((up I x0 36 (((I x0 36) - (1 : Int32)))) x0 36)).toNatClampNeg) = (9 : Int32) → (∃ (I4 : Nat → Nat → Int32), rMet γ l m_X9_emit [.ref x0, .int (4 : Int32), .int (0 : Int32)] (sh, (up I x0 36 (((I x0 36) - (1 : Int32)))), J, R) (sh, I4, J, R) none ∧ (rW γ l m_X9_comesOut 0 0 0 [some (.ref x0), some (.int x1), none] [] (sh, I4, J, R) Q))))))) :
    rW γ l m_X9_comesOut 0 0 43 [some (.ref x0), some (.int x1), none] [] (sh, I, J, R) Q := by
  obtain ⟨b1, t⟩ := t
  by_cases p0 : ((up I x0 36 (((I x0 36) - (1 : Int32)))) (x0 + 22) (((up I x0 36 (((I x0 36) - (1 : Int32)))) x0 36)).toNatClampNeg) = (8 : Int32)
  · have t := t.1 p0
    obtain ⟨I10, m11, t⟩ := t
    obtain ⟨hf, r, t, q⟩ := t
    exact ⟨hf, r, b_X9_comesOut_43 (I4 := I) (I7 := I) h_x0 b1 (fun y0 _ => absurd p0 y0) (fun y0 _ => absurd p0 y0) (fun y0 _ => absurd p0 y0) (fun y0 _ => absurd p0 y0) (fun _ => m11) (fun _ => t), q⟩
  · have t := t.2 p0
    by_cases p1 : ((up I x0 36 (((I x0 36) - (1 : Int32)))) (x0 + 22) (((up I x0 36 (((I x0 36) - (1 : Int32)))) x0 36)).toNatClampNeg) = (9 : Int32)
    · have t := t.1 p1
      obtain ⟨I7, m8, t⟩ := t
      obtain ⟨hf, r, t, q⟩ := t
      exact ⟨hf, r, b_X9_comesOut_43 (I4 := I) (I10 := I) h_x0 b1 (fun _ y1 => absurd p1 y1) (fun _ y1 => absurd p1 y1) (fun _ _ => m8) (fun _ _ => t) (fun y0 => absurd y0 p0) (fun y0 => absurd y0 p0), q⟩
    · have t := t.2 p1
      obtain ⟨I4, m5, t⟩ := t
      obtain ⟨hf, r, t, q⟩ := t
      exact ⟨hf, r, b_X9_comesOut_43 (I7 := I) (I10 := I) h_x0 b1 (fun _ _ => m5) (fun _ _ => t) (fun _ y1 => absurd y1 p1) (fun _ y1 => absurd y1 p1) (fun y0 => absurd y0 p0) (fun y0 => absurd y0 p0), q⟩
abbrev s_X9_expression_0 (γ : rG) (l : Launch) (x0 : Nat) (h : rHeap) (Q : rHeap → Option Value → Prop) : Prop := rW γ l m_X9_expression 0 0 0 [some (.ref x0), none, none, none, none] [] h Q
theorem w_X9_expression_0 {γ : rG} {l : Launch} {Q : rHeap → Option Value → Prop} {sh : Nat × (Nat → Nat) × (Nat → Nat)} {I : Nat → Nat → Int32} {J : Nat → Nat → Int64} {R : Nat → Nat → Option Nat} {x0 : Nat}
    (h_x0 : At9 sh R x0)
    (t : rW γ l m_X9_expression 0 0 12 [some (.ref x0), some (.int ((up I x0 36 (0 : Int32)) x0 12)), some (.int (1 : Int32)), none, none] [] (sh, (up I x0 36 (0 : Int32)), J, R) Q) :
    rW γ l m_X9_expression 0 0 0 [some (.ref x0), none, none, none, none] [] (sh, I, J, R) Q := by
  obtain ⟨hf, r, t, q⟩ := t
  exact ⟨hf, r, b_X9_expression_0  h_x0 t, q⟩
abbrev s_X9_expression_12 (γ : rG) (l : Launch) (x0 : Nat) (x1 : Int32) (x2 : Int32) (h : rHeap) (Q : rHeap → Option Value → Prop) : Prop := rW γ l m_X9_expression 0 0 12 [some (.ref x0), some (.int x1), some (.int x2), none, none] [] h Q
theorem w_X9_expression_12 {γ : rG} {l : Launch} {Q : rHeap → Option Value → Prop} {sh : Nat × (Nat → Nat) × (Nat → Nat)} {I : Nat → Nat → Int32} {J : Nat → Nat → Int64} {R : Nat → Nat → Option Nat} {x0 : Nat} {x1 : Int32} {x2 : Int32}
    (h_x0 : At9 sh R x0)
    (t : (x2 = 0 → (Q (sh, I, J, R) (none))) ∧ (¬ x2 = 0 → (((I x0 13) = 0 → (∃ (v6 : Int32), rMet γ l m_X9_is [.ref x0, .int (6 : Int32)] (sh, I, J, R) (sh, I, J, R) (some (.int v6)) ∧ ((v6 = 0 → (((I x0 13) = 0 → (vp_in (I x0 11) 403 ∧ (((I (x0 + 3) (I x0 11).toNatClampNeg) < (29 : Int32) → (rW γ l m_X9_expression 0 0 131 [some (.ref x0), some (.int x1), none, none, none] [] (sh, I, J, R) Q)) ∧ (¬ (I (x0 + 3) (I x0 11).toNatClampNeg) < (29 : Int32) → (vp_in (I x0 11) 403 ∧ (((33 : Int32) < (I (x0 + 3) (I x0 11).toNatClampNeg) → (rW γ l m_X9_expression 0 0 131 [some (.ref x0), some (.int x1), none, none, none] [] (sh, I, J, R) Q)) ∧ (¬ (33 : Int32) < (I (x0 + 3) (I x0 11).toNatClampNeg) → (rW γ l m_X9_expression 0 0 132 [some (.ref x0), some (.int x1), none, none, none] [.int (1 : Int32)] (sh, I, J, R) Q)))))))) ∧ (¬ (I x0 13) = 0 → (rW γ l m_X9_expression 0 0 131 [some (.ref x0), some (.int x1), none, none, none] [] (sh, I, J, R) Q)))) ∧ (¬ v6 = 0 → (((I x0 12) = (6 : Int32) → (∃ (I19 : Nat → Nat → Int32), rMet γ l m_X9_fail [.ref x0, .int (2 : Int32)] (sh, I, J, R) (sh, I19, J, R) none ∧ (rW γ l m_X9_expression 0 0 46 [some (.ref x0), some (.int x1), some (.int x2), none, none] [] (sh, I19, J, R) Q))) ∧ (¬ (I x0 12) = (6 : Int32) → (rW γ l m_X9_expression 0 0 46 [some (.ref x0), some (.int x1), some (.int x2), none, none] [] (sh, I, J, R) Q))))))) ∧ (¬ (I x0 13) = 0 → (Q (sh, I, J, R) (none)))))) :
    rW γ l m_X9_expression 0 0 12 [some (.ref x0), some (.int x1), some (.int x2), none, none] [] (sh, I, J, R) Q := by
  by_cases p0 : x2 = 0
  · have t := t.1 p0
    exact ⟨_, _, b_X9_expression_12 (v6 := 0) (I19 := I) h_x0 (fun _ => ⟨rfl, rfl⟩) (fun y0 _ => absurd p0 y0) (fun y0 _ => absurd p0 y0) (fun y0 _ _ _ => absurd p0 y0) (fun y0 _ _ _ => absurd p0 y0) (fun y0 _ _ _ _ => absurd p0 y0) (fun y0 _ _ _ _ => absurd p0 y0) (fun y0 _ _ _ _ _ => absurd p0 y0) (fun y0 _ _ _ _ _ => absurd p0 y0) (fun y0 _ _ _ => absurd p0 y0) (fun y0 _ _ _ => absurd p0 y0) (fun y0 _ _ _ => absurd p0 y0), t⟩
  · have t := t.2 p0
    by_cases p1 : (I x0 13) = 0
    · have t := t.1 p1
      obtain ⟨v6, m5, t⟩ := t
      by_cases p2 : v6 = 0
      · have t := t.1 p2
        by_cases p3 : (I x0 13) = 0
        · have t := t.1 p3
          obtain ⟨b10, t⟩ := t
          by_cases p4 : (I (x0 + 3) (I x0 11).toNatClampNeg) < (29 : Int32)
          · have t := t.1 p4
            obtain ⟨hf, r, t, q⟩ := t
            exact ⟨hf, r, b_X9_expression_12 (I19 := I) h_x0 (fun y0 => absurd y0 p0) (fun _ y1 => absurd p1 y1) (fun _ _ => m5) (fun _ _ _ y3 => absurd p3 y3) (fun _ _ _ _ => b10) (fun _ _ _ _ _ => t) (fun _ _ _ _ y4 => absurd p4 y4) (fun _ _ _ _ y4 _ => absurd p4 y4) (fun _ _ _ _ y4 _ => absurd p4 y4) (fun _ _ y2 _ => absurd p2 y2) (fun _ _ y2 _ => absurd p2 y2) (fun _ _ y2 _ => absurd p2 y2), q⟩
          · have t := t.2 p4
            obtain ⟨b13, t⟩ := t
            by_cases p5 : (33 : Int32) < (I (x0 + 3) (I x0 11).toNatClampNeg)
            · have t := t.1 p5
              obtain ⟨hf, r, t, q⟩ := t
              exact ⟨hf, r, b_X9_expression_12 (I19 := I) h_x0 (fun y0 => absurd y0 p0) (fun _ y1 => absurd p1 y1) (fun _ _ => m5) (fun _ _ _ y3 => absurd p3 y3) (fun _ _ _ _ => b10) (fun _ _ _ _ y4 => absurd y4 p4) (fun _ _ _ _ _ => b13) (fun _ _ _ _ _ _ => t) (fun _ _ _ _ _ y5 => absurd p5 y5) (fun _ _ y2 _ => absurd p2 y2) (fun _ _ y2 _ => absurd p2 y2) (fun _ _ y2 _ => absurd p2 y2), q⟩
            · have t := t.2 p5
              obtain ⟨hf, r, t, q⟩ := t
              exact ⟨hf, r, b_X9_expression_12 (I19 := I) h_x0 (fun y0 => absurd y0 p0) (fun _ y1 => absurd p1 y1) (fun _ _ => m5) (fun _ _ _ y3 => absurd p3 y3) (fun _ _ _ _ => b10) (fun _ _ _ _ y4 => absurd y4 p4) (fun _ _ _ _ _ => b13) (fun _ _ _ _ _ y5 => absurd y5 p5) (fun _ _ _ _ _ _ => t) (fun _ _ y2 _ => absurd p2 y2) (fun _ _ y2 _ => absurd p2 y2) (fun _ _ y2 _ => absurd p2 y2), q⟩
        · have t := t.2 p3
          obtain ⟨hf, r, t, q⟩ := t
          exact ⟨hf, r, b_X9_expression_12 (I19 := I) h_x0 (fun y0 => absurd y0 p0) (fun _ y1 => absurd p1 y1) (fun _ _ => m5) (fun _ _ _ _ => t) (fun _ _ _ y3 => absurd y3 p3) (fun _ _ _ y3 _ => absurd y3 p3) (fun _ _ _ y3 _ => absurd y3 p3) (fun _ _ _ y3 _ _ => absurd y3 p3) (fun _ _ _ y3 _ _ => absurd y3 p3) (fun _ _ y2 _ => absurd p2 y2) (fun _ _ y2 _ => absurd p2 y2) (fun _ _ y2 _ => absurd p2 y2), q⟩
      · have t := t.2 p2
        by_cases p3 : (I x0 12) = (6 : Int32)
        · have t := t.1 p3
          obtain ⟨I19, m20, t⟩ := t
          obtain ⟨hf, r, t, q⟩ := t
          exact ⟨hf, r, b_X9_expression_12  h_x0 (fun y0 => absurd y0 p0) (fun _ y1 => absurd p1 y1) (fun _ _ => m5) (fun _ _ y2 _ => absurd y2 p2) (fun _ _ y2 _ => absurd y2 p2) (fun _ _ y2 _ _ => absurd y2 p2) (fun _ _ y2 _ _ => absurd y2 p2) (fun _ _ y2 _ _ _ => absurd y2 p2) (fun _ _ y2 _ _ _ => absurd y2 p2) (fun _ _ _ y3 => absurd p3 y3) (fun _ _ _ _ => m20) (fun _ _ _ _ => t), q⟩
        · have t := t.2 p3
          obtain ⟨hf, r, t, q⟩ := t
          exact ⟨hf, r, b_X9_expression_12 (I19 := I) h_x0 (fun y0 => absurd y0 p0) (fun _ y1 => absurd p1 y1) (fun _ _ => m5) (fun _ _ y2 _ => absurd y2 p2) (fun _ _ y2 _ => absurd y2 p2) (fun _ _ y2 _ _ => absurd y2 p2) (fun _ _ y2 _ _ => absurd y2 p2) (fun _ _ y2 _ _ _ => absurd y2 p2) (fun _ _ y2 _ _ _ => absurd y2 p2) (fun _ _ _ _ => t) (fun _ _ _ y3 => absurd y3 p3) (fun _ _ _ y3 => absurd y3 p3), q⟩
    · have t := t.2 p1
      exact ⟨_, _, b_X9_expression_12 (v6 := 0) (I19 := I) h_x0 (fun y0 => absurd y0 p0) (fun _ _ => ⟨rfl, rfl⟩) (fun _ y1 => absurd y1 p1) (fun _ y1 _ _ => absurd y1 p1) (fun _ y1 _ _ => absurd y1 p1) (fun _ y1 _ _ _ => absurd y1 p1) (fun _ y1 _ _ _ => absurd y1 p1) (fun _ y1 _ _ _ _ => absurd y1 p1) (fun _ y1 _ _ _ _ => absurd y1 p1) (fun _ y1 _ _ => absurd y1 p1) (fun _ y1 _ _ => absurd y1 p1) (fun _ y1 _ _ => absurd y1 p1), t⟩
abbrev s_X9_expression_131 (γ : rG) (l : Launch) (x0 : Nat) (x1 : Int32) (h : rHeap) (Q : rHeap → Option Value → Prop) : Prop := rW γ l m_X9_expression 0 0 131 [some (.ref x0), some (.int x1), none, none, none] [] h Q
theorem w_X9_expression_131 {γ : rG} {l : Launch} {Q : rHeap → Option Value → Prop} {sh : Nat × (Nat → Nat) × (Nat → Nat)} {I : Nat → Nat → Int32} {J : Nat → Nat → Int64} {R : Nat → Nat → Option Nat} {x0 : Nat} {x1 : Int32}
    (h_x0 : At9 sh R x0)
    (t : rW γ l m_X9_expression 0 0 132 [some (.ref x0), some (.int x1), none, none, none] [.int (0 : Int32)] (sh, I, J, R) Q) :
    rW γ l m_X9_expression 0 0 131 [some (.ref x0), some (.int x1), none, none, none] [] (sh, I, J, R) Q := by
  obtain ⟨hf, r, t, q⟩ := t
  exact ⟨hf, r, b_X9_expression_131  h_x0 t, q⟩
abbrev s_X9_expression_132 (γ : rG) (l : Launch) (x0 : Nat) (x1 : Int32) (s0 : Int32) (h : rHeap) (Q : rHeap → Option Value → Prop) : Prop := rW γ l m_X9_expression 0 0 132 [some (.ref x0), some (.int x1), none, none, none] [.int s0] h Q
theorem w_X9_expression_132 {γ : rG} {l : Launch} {Q : rHeap → Option Value → Prop} {sh : Nat × (Nat → Nat) × (Nat → Nat)} {I : Nat → Nat → Int32} {J : Nat → Nat → Int64} {R : Nat → Nat → Option Nat} {x0 : Nat} {x1 : Int32} {s0 : Int32}
    (h_x0 : At9 sh R x0)
    (t : ∃ (v2 : Int32), rMet γ l m_X9_is [.ref x0, .int (2 : Int32)] (sh, I, J, R) (sh, I, J, R) (some (.int v2)) ∧ ((v2 = 0 → ((s0 = 0 → (∃ (I7 : Nat → Nat → Int32), rMet γ l m_X9_fail [.ref x0, .int (1 : Int32)] (sh, I, J, R) (sh, I7, J, R) none ∧ (rW γ l m_X9_expression 0 0 150 [some (.ref x0), some (.int x1), none, some (.int s0), none] [] (sh, I7, J, R) Q))) ∧ (¬ s0 = 0 → (rW γ l m_X9_expression 0 0 150 [some (.ref x0), some (.int x1), none, some (.int s0), none] [] (sh, I, J, R) Q)))) ∧ (¬ v2 = 0 → (rW γ l m_X9_expression 0 0 150 [some (.ref x0), some (.int x1), none, some (.int s0), none] [] (sh, I, J, R) Q)))) :
    rW γ l m_X9_expression 0 0 132 [some (.ref x0), some (.int x1), none, none, none] [.int s0] (sh, I, J, R) Q := by
  obtain ⟨v2, m1, t⟩ := t
  by_cases p0 : v2 = 0
  · have t := t.1 p0
    by_cases p1 : s0 = 0
    · have t := t.1 p1
      obtain ⟨I7, m8, t⟩ := t
      obtain ⟨hf, r, t, q⟩ := t
      exact ⟨hf, r, b_X9_expression_132  h_x0 m1 (fun y0 => absurd p0 y0) (fun _ y1 => absurd p1 y1) (fun _ _ => m8) (fun _ _ => t), q⟩
    · have t := t.2 p1
      obtain ⟨hf, r, t, q⟩ := t
      exact ⟨hf, r, b_X9_expression_132 (I7 := I) h_x0 m1 (fun y0 => absurd p0 y0) (fun _ _ => t) (fun _ y1 => absurd y1 p1) (fun _ y1 => absurd y1 p1), q⟩
  · have t := t.2 p0
    obtain ⟨hf, r, t, q⟩ := t
    exact ⟨hf, r, b_X9_expression_132 (I7 := I) h_x0 m1 (fun _ => t) (fun y0 _ => absurd y0 p0) (fun y0 _ => absurd y0 p0) (fun y0 _ => absurd y0 p0), q⟩
abbrev s_X9_expression_46 (γ : rG) (l : Launch) (x0 : Nat) (x1 : Int32) (x2 : Int32) (h : rHeap) (Q : rHeap → Option Value → Prop) : Prop := rW γ l m_X9_expression 0 0 46 [some (.ref x0), some (.int x1), some (.int x2), none, none] [] h Q
theorem w_X9_expression_46 {γ : rG} {l : Launch} {Q : rHeap → Option Value → Prop} {sh : Nat × (Nat → Nat) × (Nat → Nat)} {I : Nat → Nat → Int32} {J : Nat → Nat → Int64} {R : Nat → Nat → Option Nat} {x0 : Nat} {x1 : Int32} {x2 : Int32}
    (h_x0 : At9 sh R x0)
    (t : ((I x0 13) ≤ 0 → (∃ (I2 : Nat → Nat → Int32), rMet γ l m_X9_next [.ref x0] (sh, (up I x0 12 (((I x0 12) + (1 : Int32)))), J, R) (sh, I2, J, R) none ∧ (vp_in (I2 x0 36) 48 ∧ (rW γ l m_X9_expression 0 0 12 [some (.ref x0), some (.int x1), some (.int x2), none, none] [] (sh, (up (up I2 (x0 + 22) (I2 x0 36).toNatClampNeg (6 : Int32)) x0 36 ((((up I2 (x0 + 22) (I2 x0 36).toNatClampNeg (6 : Int32)) x0 36) + (1 : Int32)))), J, R) Q)))) ∧ (¬ (I x0 13) ≤ 0 → (Q (sh, I, J, R) (none)))) :
    rW γ l m_X9_expression 0 0 46 [some (.ref x0), some (.int x1), some (.int x2), none, none] [] (sh, I, J, R) Q := by
  by_cases p0 : (I x0 13) ≤ 0
  · have t := t.1 p0
    obtain ⟨I2, m3, t⟩ := t
    obtain ⟨b4, t⟩ := t
    obtain ⟨hf, r, t, q⟩ := t
    exact ⟨hf, r, b_X9_expression_46  h_x0 (fun _ => m3) (fun _ => b4) (fun _ => t) (fun y0 => absurd p0 y0), q⟩
  · have t := t.2 p0
    exact ⟨_, _, b_X9_expression_46 (I2 := I) h_x0 (fun y0 => absurd y0 p0) (fun y0 => absurd y0 p0) (fun y0 => absurd y0 p0) (fun _ => ⟨rfl, rfl⟩), t⟩
abbrev s_X9_expression_150 (γ : rG) (l : Launch) (x0 : Nat) (x1 : Int32) (x3 : Int32) (h : rHeap) (Q : rHeap → Option Value → Prop) : Prop := rW γ l m_X9_expression 0 0 150 [some (.ref x0), some (.int x1), none, some (.int x3), none] [] h Q
theorem w_X9_expression_150 {γ : rG} {l : Launch} {Q : rHeap → Option Value → Prop} {sh : Nat × (Nat → Nat) × (Nat → Nat)} {I : Nat → Nat → Int32} {J : Nat → Nat → Int64} {R : Nat → Nat → Option Nat} {x0 : Nat} {x1 : Int32} {x3 : Int32}
    (h_x0 : At9 sh R x0)
    (t : ((I x0 13) ≤ 0 → ((x3 = 0 → (vp_in (I x0 11) 403 ∧ (∃ (I4 : Nat → Nat → Int32), rMet γ l m_X9_emit [.ref x0, .int (0 : Int32), .int (I (x0 + 5) (I x0 11).toNatClampNeg)] (sh, I, J, R) (sh, I4, J, R) none ∧ (∃ (I6 : Nat → Nat → Int32), rMet γ l m_X9_next [.ref x0] (sh, I4, J, R) (sh, I6, J, R) none ∧ (rW γ l m_X9_expression 0 0 200 [some (.ref x0), some (.int x1), none, none, none] [] (sh, I6, J, R) Q))))) ∧ (¬ x3 = 0 → (vp_in (I x0 11) 403 ∧ (∃ (I10 : Nat → Nat → Int32), rMet γ l m_X9_emit [.ref x0, .int (1 : Int32), .int ((I (x0 + 3) (I x0 11).toNatClampNeg) - (29 : Int32))] (sh, I, J, R) (sh, I10, J, R) none ∧ (∃ (I12 : Nat → Nat → Int32), rMet γ l m_X9_next [.ref x0] (sh, I10, J, R) (sh, I12, J, R) none ∧ (rW γ l m_X9_expression 0 0 200 [some (.ref x0), some (.int x1), none, none, none] [] (sh, I12, J, R) Q))))))) ∧ (¬ (I x0 13) ≤ 0 → (Q (sh, I, J, R) (none)))) :
    rW γ l m_X9_expression 0 0 150 [some (.ref x0), some (.int x1), none, some (.int x3), none] [] (sh, I, J, R) Q := by
  by_cases p0 : (I x0 13) ≤ 0
  · have t := t.1 p0
    by_cases p1 : x3 = 0
    · have t := t.1 p1
      obtain ⟨b3, t⟩ := t
      obtain ⟨I4, m5, t⟩ := t
      obtain ⟨I6, m7, t⟩ := t
      obtain ⟨hf, r, t, q⟩ := t
      exact ⟨hf, r, b_X9_expression_150 (I10 := I) (I12 := I) h_x0 (fun _ _ => b3) (fun _ _ => m5) (fun _ _ => m7) (fun _ _ => t) (fun _ y1 => absurd p1 y1) (fun _ y1 => absurd p1 y1) (fun _ y1 => absurd p1 y1) (fun _ y1 => absurd p1 y1) (fun y0 => absurd p0 y0), q⟩
    · have t := t.2 p1
      obtain ⟨b9, t⟩ := t
      obtain ⟨I10, m11, t⟩ := t
      obtain ⟨I12, m13, t⟩ := t
      obtain ⟨hf, r, t, q⟩ := t
      exact ⟨hf, r, b_X9_expression_150 (I4 := I) (I6 := I) h_x0 (fun _ y1 => absurd y1 p1) (fun _ y1 => absurd y1 p1) (fun _ y1 => absurd y1 p1) (fun _ y1 => absurd y1 p1) (fun _ _ => b9) (fun _ _ => m11) (fun _ _ => m13) (fun _ _ => t) (fun y0 => absurd p0 y0), q⟩
  · have t := t.2 p0
    exact ⟨_, _, b_X9_expression_150 (I4 := I) (I6 := I) (I10 := I) (I12 := I) h_x0 (fun y0 _ => absurd y0 p0) (fun y0 _ => absurd y0 p0) (fun y0 _ => absurd y0 p0) (fun y0 _ => absurd y0 p0) (fun y0 _ => absurd y0 p0) (fun y0 _ => absurd y0 p0) (fun y0 _ => absurd y0 p0) (fun y0 _ => absurd y0 p0) (fun _ => ⟨rfl, rfl⟩), t⟩
abbrev s_X9_expression_200 (γ : rG) (l : Launch) (x0 : Nat) (x1 : Int32) (h : rHeap) (Q : rHeap → Option Value → Prop) : Prop := rW γ l m_X9_expression 0 0 200 [some (.ref x0), some (.int x1), none, none, none] [] h Q
theorem w_X9_expression_200 {γ : rG} {l : Launch} {Q : rHeap → Option Value → Prop} {sh : Nat × (Nat → Nat) × (Nat → Nat)} {I : Nat → Nat → Int32} {J : Nat → Nat → Int64} {R : Nat → Nat → Option Nat} {x0 : Nat} {x1 : Int32}
    (h_x0 : At9 sh R x0)
    (t : ∃ (v2 : Int32), rMet γ l m_X9_is [.ref x0, .int (7 : Int32)] (sh, I, J, R) (sh, I, J, R) (some (.int v2)) ∧ ((v2 = 0 → (rW γ l m_X9_expression 0 0 249 [some (.ref x0), some (.int x1), none, none, none] [] (sh, I, J, R) Q)) ∧ (¬ v2 = 0 → (((I x0 12) ≤ x1 → (rW γ l m_X9_expression 0 0 249 [some (.ref x0), some (.int x1), none, none, none] [] (sh, I, J, R) Q)) ∧ (¬ (I x0 12) ≤ x1 → (∃ (I7 : Nat → Nat → Int32), rMet γ l m_X9_comesOut [.ref x0, .int (0 : Int32)] (sh, I, J, R) (sh, I7, J, R) none ∧ (∃ (I9 : Nat → Nat → Int32), rMet γ l m_X9_next [.ref x0] (sh, (up (up I7 x0 36 (((I7 x0 36) - (1 : Int32)))) x0 12 ((((up I7 x0 36 (((I7 x0 36) - (1 : Int32)))) x0 12) - (1 : Int32)))), J, R) (sh, I9, J, R) none ∧ (rW γ l m_X9_expression 0 0 200 [some (.ref x0), some (.int x1), none, none, none] [] (sh, I9, J, R) Q)))))))) :
    rW γ l m_X9_expression 0 0 200 [some (.ref x0), some (.int x1), none, none, none] [] (sh, I, J, R) Q := by
  obtain ⟨v2, m1, t⟩ := t
  by_cases p0 : v2 = 0
  · have t := t.1 p0
    obtain ⟨hf, r, t, q⟩ := t
    exact ⟨hf, r, b_X9_expression_200 (I7 := I) (I9 := I) h_x0 m1 (fun _ => t) (fun y0 _ => absurd p0 y0) (fun y0 _ => absurd p0 y0) (fun y0 _ => absurd p0 y0) (fun y0 _ => absurd p0 y0), q⟩
  · have t := t.2 p0
    by_cases p1 : (I x0 12) ≤ x1
    · have t := t.1 p1
      obtain ⟨hf, r, t, q⟩ := t
      exact ⟨hf, r, b_X9_expression_200 (I7 := I) (I9 := I) h_x0 m1 (fun y0 => absurd y0 p0) (fun _ _ => t) (fun _ y1 => absurd p1 y1) (fun _ y1 => absurd p1 y1) (fun _ y1 => absurd p1 y1), q⟩
    · have t := t.2 p1
      obtain ⟨I7, m8, t⟩ := t
      obtain ⟨I9, m10, t⟩ := t
      obtain ⟨hf, r, t, q⟩ := t
      exact ⟨hf, r, b_X9_expression_200  h_x0 m1 (fun y0 => absurd y0 p0) (fun _ y1 => absurd y1 p1) (fun _ _ => m8) (fun _ _ => m10) (fun _ _ => t), q⟩
abbrev s_X9_expression_249 (γ : rG) (l : Launch) (x0 : Nat) (x1 : Int32) (h : rHeap) (Q : rHeap → Option Value → Prop) : Prop := rW γ l m_X9_expression 0 0 249 [some (.ref x0), some (.int x1), none, none, none] [] h Q
theorem w_X9_expression_249 {γ : rG} {l : Launch} {Q : rHeap → Option Value → Prop} {sh : Nat × (Nat → Nat) × (Nat → Nat)} {I : Nat → Nat → Int32} {J : Nat → Nat → Int64} {R : Nat → Nat → Option Nat} {x0 : Nat} {x1 : Int32}
    (h_x0 : At9 sh R x0)
    (t : ∃ (v2 : Int32), rMet γ l m_X9_is [.ref x0, .int (8 : Int32)] (sh, I, J, R) (sh, I, J, R) (some (.int v2)) ∧ ((v2 = 0 → (∃ (v6 : Int32), rMet γ l m_X9_is [.ref x0, .int (9 : Int32)] (sh, I, J, R) (sh, I, J, R) (some (.int v6)) ∧ ((v6 = 0 → (∃ (v10 : Int32), rMet γ l m_X9_is [.ref x0, .int (10 : Int32)] (sh, I, J, R) (sh, I, J, R) (some (.int v10)) ∧ ((v10 = 0 → (rW γ l m_X9_expression 0 0 281 [some (.ref x0), some (.int x1), none, none, none] [.int (0 : Int32)] (sh, I, J, R) Q)) ∧ (¬ v10 = 0 → (rW γ l m_X9_expression 0 0 276 [some (.ref x0), some (.int x1), none, none, none] [] (sh, I, J, R) Q))))) ∧ (¬ v6 = 0 → (rW γ l m_X9_expression 0 0 276 [some (.ref x0), some (.int x1), none, none, none] [] (sh, I, J, R) Q))))) ∧ (¬ v2 = 0 → (rW γ l m_X9_expression 0 0 276 [some (.ref x0), some (.int x1), none, none, none] [] (sh, I, J, R) Q)))) :
    rW γ l m_X9_expression 0 0 249 [some (.ref x0), some (.int x1), none, none, none] [] (sh, I, J, R) Q := by
  obtain ⟨v2, m1, t⟩ := t
  by_cases p0 : v2 = 0
  · have t := t.1 p0
    obtain ⟨v6, m5, t⟩ := t
    by_cases p1 : v6 = 0
    · have t := t.1 p1
      obtain ⟨v10, m9, t⟩ := t
      by_cases p2 : v10 = 0
      · have t := t.1 p2
        obtain ⟨hf, r, t, q⟩ := t
        exact ⟨hf, r, b_X9_expression_249  h_x0 m1 (fun y0 => absurd p0 y0) (fun _ => m5) (fun _ y1 => absurd p1 y1) (fun _ _ => m9) (fun _ _ _ => t) (fun _ _ y2 => absurd p2 y2), q⟩
      · have t := t.2 p2
        obtain ⟨hf, r, t, q⟩ := t
        exact ⟨hf, r, b_X9_expression_249  h_x0 m1 (fun y0 => absurd p0 y0) (fun _ => m5) (fun _ y1 => absurd p1 y1) (fun _ _ => m9) (fun _ _ y2 => absurd y2 p2) (fun _ _ _ => t), q⟩
    · have t := t.2 p1
      obtain ⟨hf, r, t, q⟩ := t
      exact ⟨hf, r, b_X9_expression_249 (v10 := 0) h_x0 m1 (fun y0 => absurd p0 y0) (fun _ => m5) (fun _ _ => t) (fun _ y1 => absurd y1 p1) (fun _ y1 _ => absurd y1 p1) (fun _ y1 _ => absurd y1 p1), q⟩
  · have t := t.2 p0
    obtain ⟨hf, r, t, q⟩ := t
    exact ⟨hf, r, b_X9_expression_249 (v6 := 0) (v10 := 0) h_x0 m1 (fun _ => t) (fun y0 => absurd y0 p0) (fun y0 _ => absurd y0 p0) (fun y0 _ => absurd y0 p0) (fun y0 _ _ => absurd y0 p0) (fun y0 _ _ => absurd y0 p0), q⟩
abbrev s_X9_expression_276 (γ : rG) (l : Launch) (x0 : Nat) (x1 : Int32) (h : rHeap) (Q : rHeap → Option Value → Prop) : Prop := rW γ l m_X9_expression 0 0 276 [some (.ref x0), some (.int x1), none, none, none] [] h Q
theorem w_X9_expression_276 {γ : rG} {l : Launch} {Q : rHeap → Option Value → Prop} {sh : Nat × (Nat → Nat) × (Nat → Nat)} {I : Nat → Nat → Int32} {J : Nat → Nat → Int64} {R : Nat → Nat → Option Nat} {x0 : Nat} {x1 : Int32}
    (h_x0 : At9 sh R x0)
    (t : rW γ l m_X9_expression 0 0 281 [some (.ref x0), some (.int x1), none, none, none] [.int (1 : Int32)] (sh, I, J, R) Q) :
    rW γ l m_X9_expression 0 0 276 [some (.ref x0), some (.int x1), none, none, none] [] (sh, I, J, R) Q := by
  obtain ⟨hf, r, t, q⟩ := t
  exact ⟨hf, r, b_X9_expression_276  h_x0 t, q⟩
abbrev s_X9_expression_281 (γ : rG) (l : Launch) (x0 : Nat) (x1 : Int32) (s0 : Int32) (h : rHeap) (Q : rHeap → Option Value → Prop) : Prop := rW γ l m_X9_expression 0 0 281 [some (.ref x0), some (.int x1), none, none, none] [.int s0] h Q
theorem w_X9_expression_281 {γ : rG} {l : Launch} {Q : rHeap → Option Value → Prop} {sh : Nat × (Nat → Nat) × (Nat → Nat)} {I : Nat → Nat → Int32} {J : Nat → Nat → Int64} {R : Nat → Nat → Option Nat} {x0 : Nat} {x1 : Int32} {s0 : Int32}
    (h_x0 : At9 sh R x0)
    (t : (s0 = 0 → (((I x0 12) ≤ x1 → (∃ (I7 : Nat → Nat → Int32), rMet γ l m_X9_comesOut [.ref x0, .int (0 : Int32)] (sh, I, J, R) (sh, I7, J, R) none ∧ (Q (sh, I7, J, R) (none)))) ∧ (¬ (I x0 12) ≤ x1 → (∃ (I10 : Nat → Nat → Int32), rMet γ l m_X9_fail [.ref x0, .int (1 : Int32)] (sh, I, J, R) (sh, I10, J, R) none ∧ (∃ (I12 : Nat → Nat → Int32), rMet γ l m_X9_comesOut [.ref x0, .int (0 : Int32)] (sh, I10, J, R) (sh, I12, J, R) none ∧ (Q (sh, I12, J, R) (none))))))) ∧ (¬ s0 = 0 → (vp_in (I x0 11) 403 ∧ (((I (x0 + 3) (I x0 11).toNatClampNeg) = (10 : Int32) → (rW γ l m_X9_expression 0 0 329 [some (.ref x0), some (.int x1), some (.int s0), none, some (.int (I (x0 + 3) (I x0 11).toNatClampNeg))] [.int (1 : Int32), .ref x0] (sh, I, J, R) Q)) ∧ (¬ (I (x0 + 3) (I x0 11).toNatClampNeg) = (10 : Int32) → (rW γ l m_X9_expression 0 0 329 [some (.ref x0), some (.int x1), some (.int s0), none, some (.int (I (x0 + 3) (I x0 11).toNatClampNeg))] [.int (0 : Int32), .ref x0] (sh, I, J, R) Q)))))) :
    rW γ l m_X9_expression 0 0 281 [some (.ref x0), some (.int x1), none, none, none] [.int s0] (sh, I, J, R) Q := by
  by_cases p0 : s0 = 0
  · have t := t.1 p0
    by_cases p1 : (I x0 12) ≤ x1
    · have t := t.1 p1
      obtain ⟨I7, m8, t⟩ := t
      exact ⟨_, _, b_X9_expression_281 (I10 := I) (I12 := I) h_x0 (fun y0 => absurd p0 y0) (fun y0 _ => absurd p0 y0) (fun y0 _ => absurd p0 y0) (fun _ _ => m8) (fun _ _ => ⟨rfl, rfl⟩) (fun _ y1 => absurd p1 y1) (fun _ y1 => absurd p1 y1) (fun _ y1 => absurd p1 y1), t⟩
    · have t := t.2 p1
      obtain ⟨I10, m11, t⟩ := t
      obtain ⟨I12, m13, t⟩ := t
      exact ⟨_, _, b_X9_expression_281 (I7 := I) h_x0 (fun y0 => absurd p0 y0) (fun y0 _ => absurd p0 y0) (fun y0 _ => absurd p0 y0) (fun _ y1 => absurd y1 p1) (fun _ y1 => absurd y1 p1) (fun _ _ => m11) (fun _ _ => m13) (fun _ _ => ⟨rfl, rfl⟩), t⟩
  · have t := t.2 p0
    obtain ⟨b2, t⟩ := t
    by_cases p1 : (I (x0 + 3) (I x0 11).toNatClampNeg) = (10 : Int32)
    · have t := t.1 p1
      obtain ⟨hf, r, t, q⟩ := t
      exact ⟨hf, r, b_X9_expression_281 (I7 := I) (I10 := I) (I12 := I) h_x0 (fun _ => b2) (fun _ y1 => absurd p1 y1) (fun _ _ => t) (fun y0 _ => absurd y0 p0) (fun y0 _ => absurd y0 p0) (fun y0 _ => absurd y0 p0) (fun y0 _ => absurd y0 p0) (fun y0 _ => absurd y0 p0), q⟩
    · have t := t.2 p1
      obtain ⟨hf, r, t, q⟩ := t
      exact ⟨hf, r, b_X9_expression_281 (I7 := I) (I10 := I) (I12 := I) h_x0 (fun _ => b2) (fun _ _ => t) (fun _ y1 => absurd y1 p1) (fun y0 _ => absurd y0 p0) (fun y0 _ => absurd y0 p0) (fun y0 _ => absurd y0 p0) (fun y0 _ => absurd y0 p0) (fun y0 _ => absurd y0 p0), q⟩
abbrev s_X9_expression_329 (γ : rG) (l : Launch) (x0 : Nat) (x1 : Int32) (x2 : Int32) (x4 : Int32) (s0 : Int32) (s1 : Nat) (h : rHeap) (Q : rHeap → Option Value → Prop) : Prop := rW γ l m_X9_expression 0 0 329 [some (.ref x0), some (.int x1), some (.int x2), none, some (.int x4)] [.int s0, .ref s1] h Q
theorem w_X9_expression_329 {γ : rG} {l : Launch} {Q : rHeap → Option Value → Prop} {sh : Nat × (Nat → Nat) × (Nat → Nat)} {I : Nat → Nat → Int32} {J : Nat → Nat → Int64} {R : Nat → Nat → Option Nat} {x0 : Nat} {x1 : Int32} {x2 : Int32} {x4 : Int32} {s0 : Int32} {s1 : Nat}
    (h_x0 : At9 sh R x0)
    (h_s1 : At9 sh R s1)
    (t : ∃ (I1 : Nat → Nat → Int32), rMet γ l m_X9_comesOut [.ref s1, .int s0] (sh, I, J, R) (sh, I1, J, R) none ∧ (vp_in (I1 x0 36) 48 ∧ (∃ (I4 : Nat → Nat → Int32), rMet γ l m_X9_next [.ref x0] (sh, (up (up I1 (x0 + 22) (I1 x0 36).toNatClampNeg x4) x0 36 ((((up I1 (x0 + 22) (I1 x0 36).toNatClampNeg x4) x0 36) + (1 : Int32)))), J, R) (sh, I4, J, R) none ∧ (rW γ l m_X9_expression 0 0 12 [some (.ref x0), some (.int x1), some (.int x2), none, none] [] (sh, I4, J, R) Q)))) :
    rW γ l m_X9_expression 0 0 329 [some (.ref x0), some (.int x1), some (.int x2), none, some (.int x4)] [.int s0, .ref s1] (sh, I, J, R) Q := by
  obtain ⟨I1, m2, t⟩ := t
  obtain ⟨b3, t⟩ := t
  obtain ⟨I4, m5, t⟩ := t
  obtain ⟨hf, r, t, q⟩ := t
  exact ⟨hf, r, b_X9_expression_329  h_x0 h_s1 m2 b3 m5 t, q⟩
abbrev s_X9_value_0 (γ : rG) (l : Launch) (x0 : Nat) (x1 : Int32) (x2 : Int32) (h : rHeap) (Q : rHeap → Option Value → Prop) : Prop := rW γ l m_X9_value 0 0 0 [some (.ref x0), some (.int x1), some (.int x2), none, none, none, none] [] h Q
theorem w_X9_value_0 {γ : rG} {l : Launch} {Q : rHeap → Option Value → Prop} {sh : Nat × (Nat → Nat) × (Nat → Nat)} {I : Nat → Nat → Int32} {J : Nat → Nat → Int64} {R : Nat → Nat → Option Nat} {x0 : Nat} {x1 : Int32} {x2 : Int32}
    (h_x0 : At9 sh R x0)
    (t : rW γ l m_X9_value 0 0 5 [some (.ref x0), none, some (.int x2), some (.int (0 : Int32)), some (.int x1), none, none] [] (sh, I, J, R) Q) :
    rW γ l m_X9_value 0 0 0 [some (.ref x0), some (.int x1), some (.int x2), none, none, none, none] [] (sh, I, J, R) Q := by
  obtain ⟨hf, r, t, q⟩ := t
  exact ⟨hf, r, b_X9_value_0  h_x0 t, q⟩
abbrev s_X9_value_5 (γ : rG) (l : Launch) (x0 : Nat) (x2 : Int32) (x3 : Int32) (x4 : Int32) (h : rHeap) (Q : rHeap → Option Value → Prop) : Prop := rW γ l m_X9_value 0 0 5 [some (.ref x0), none, some (.int x2), some (.int x3), some (.int x4), none, none] [] h Q
theorem w_X9_value_5 {γ : rG} {l : Launch} {Q : rHeap → Option Value → Prop} {sh : Nat × (Nat → Nat) × (Nat → Nat)} {I : Nat → Nat → Int32} {J : Nat → Nat → Int64} {R : Nat → Nat → Option Nat} {x0 : Nat} {x2 : Int32} {x3 : Int32} {x4 : Int32}
    (h_x0 : At9 sh R x0)
    (t : (x2 ≤ x4 → (vp_in (0 : Int32) 500 ∧ (Q (sh, I, J, R) (some (.int ((I (x0 + 24) (0 : Int32).toNatClampNeg))))))) ∧ (¬ x2 ≤ x4 → (vp_in x4 1000 ∧ (((2 : Int32) ≤ (I (x0 + 20) x4.toNatClampNeg) → (vp_in (((x3 + (-1 : Int32)) - (1 : Int32))) 500 ∧ (vp_in ((x3 + (-1 : Int32))) 500 ∧ (vp_in x4 1000 ∧ (((I (x0 + 20) x4.toNatClampNeg) = (2 : Int32) → (vp_in (((x3 + (-1 : Int32)) - (1 : Int32))) 500 ∧ (rW γ l m_X9_value 0 0 5 [some (.ref x0), none, some (.int x2), some (.int (x3 + (-1 : Int32))), some (.int (x4 + (1 : Int32))), none, none] [] (sh, (up I (x0 + 24) (((x3 + (-1 : Int32)) - (1 : Int32))).toNatClampNeg (((I (x0 + 24) (((x3 + (-1 : Int32)) - (1 : Int32))).toNatClampNeg) + (I (x0 + 24) ((x3 + (-1 : Int32))).toNatClampNeg)))), J, R) Q))) ∧ (¬ (I (x0 + 20) x4.toNatClampNeg) = (2 : Int32) → (vp_in x4 1000 ∧ (((I (x0 + 20) x4.toNatClampNeg) = (3 : Int32) → (vp_in (((x3 + (-1 : Int32)) - (1 : Int32))) 500 ∧ (rW γ l m_X9_value 0 0 5 [some (.ref x0), none, some (.int x2), some (.int (x3 + (-1 : Int32))), some (.int (x4 + (1 : Int32))), none, none] [] (sh, (up I (x0 + 24) (((x3 + (-1 : Int32)) - (1 : Int32))).toNatClampNeg (((I (x0 + 24) (((x3 + (-1 : Int32)) - (1 : Int32))).toNatClampNeg) - (I (x0 + 24) ((x3 + (-1 : Int32))).toNatClampNeg)))), J, R) Q))) ∧ (¬ (I (x0 + 20) x4.toNatClampNeg) = (3 : Int32) → (vp_in (((x3 + (-1 : Int32)) - (1 : Int32))) 500 ∧ (rW γ l m_X9_value 0 0 5 [some (.ref x0), none, some (.int x2), some (.int (x3 + (-1 : Int32))), some (.int (x4 + (1 : Int32))), none, none] [] (sh, (up I (x0 + 24) (((x3 + (-1 : Int32)) - (1 : Int32))).toNatClampNeg (((I (x0 + 24) (((x3 + (-1 : Int32)) - (1 : Int32))).toNatClampNeg) * (I (x0 + 24) ((x3 + (-1 : Int32))).toNatClampNeg)))), J, R) Q))))))))))) ∧ (¬ (2 : Int32) ≤ (I (x0 + 20) x4.toNatClampNeg) → (vp_in x4 1000 ∧ (((I (x0 + 20) x4.toNatClampNeg) = 0 → (vp_in x4 1000 ∧ (vp_in x3 500 ∧ (rW γ l m_X9_value 0 0 5 [some (.ref x0), none, some (.int x2), some (.int (x3 + (1 : Int32))), some (.int (x4 + (1 : Int32))), none, none] [] (sh, (up I (x0 + 24) x3.toNatClampNeg ((I (x0 + 21) x4.toNatClampNeg))), J, R) Q)))) ∧ (¬ (I (x0 + 20) x4.toNatClampNeg) = 0 → (vp_in x4 1000 ∧ (vp_in ((I (x0 + 21) x4.toNatClampNeg)) 5 ∧ (vp_in x3 500 ∧ (rW γ l m_X9_value 0 0 5 [some (.ref x0), none, some (.int x2), some (.int (x3 + (1 : Int32))), some (.int (x4 + (1 : Int32))), none, none] [] (sh, (up I (x0 + 24) x3.toNatClampNeg ((I (x0 + 23) ((I (x0 + 21) x4.toNatClampNeg)).toNatClampNeg))), J, R) Q)))))))))))) :
    rW γ l m_X9_value 0 0 5 [some (.ref x0), none, some (.int x2), some (.int x3), some (.int x4), none, none] [] (sh, I, J, R) Q := by
  by_cases p0 : x2 ≤ x4
  · have t := t.1 p0
    obtain ⟨b2, t⟩ := t
    exact ⟨_, _, b_X9_value_5  h_x0 (fun _ => b2) (fun _ => ⟨rfl, rfl⟩) (fun y0 => absurd p0 y0) (fun y0 _ => absurd p0 y0) (fun y0 _ => absurd p0 y0) (fun y0 _ => absurd p0 y0) (fun y0 _ _ => absurd p0 y0) (fun y0 _ _ _ => absurd p0 y0) (fun y0 _ _ _ => absurd p0 y0) (fun y0 _ _ _ => absurd p0 y0) (fun y0 _ _ _ => absurd p0 y0) (fun y0 _ _ => absurd p0 y0) (fun y0 _ _ => absurd p0 y0) (fun y0 _ => absurd p0 y0) (fun y0 _ _ => absurd p0 y0) (fun y0 _ _ => absurd p0 y0) (fun y0 _ _ => absurd p0 y0) (fun y0 _ _ => absurd p0 y0) (fun y0 _ _ => absurd p0 y0) (fun y0 _ _ => absurd p0 y0) (fun y0 _ _ => absurd p0 y0), t⟩
  · have t := t.2 p0
    obtain ⟨b4, t⟩ := t
    by_cases p1 : (2 : Int32) ≤ (I (x0 + 20) x4.toNatClampNeg)
    · have t := t.1 p1
      obtain ⟨b6, t⟩ := t
      obtain ⟨b7, t⟩ := t
      obtain ⟨b8, t⟩ := t
      by_cases p2 : (I (x0 + 20) x4.toNatClampNeg) = (2 : Int32)
      · have t := t.1 p2
        obtain ⟨b16, t⟩ := t
        obtain ⟨hf, r, t, q⟩ := t
        exact ⟨hf, r, b_X9_value_5  h_x0 (fun y0 => absurd y0 p0) (fun y0 => absurd y0 p0) (fun _ => b4) (fun _ _ => b6) (fun _ _ => b7) (fun _ _ => b8) (fun _ _ y2 => absurd p2 y2) (fun _ _ y2 _ => absurd p2 y2) (fun _ _ y2 _ => absurd p2 y2) (fun _ _ y2 _ => absurd p2 y2) (fun _ _ y2 _ => absurd p2 y2) (fun _ _ _ => b16) (fun _ _ _ => t) (fun _ y1 => absurd p1 y1) (fun _ y1 _ => absurd p1 y1) (fun _ y1 _ => absurd p1 y1) (fun _ y1 _ => absurd p1 y1) (fun _ y1 _ => absurd p1 y1) (fun _ y1 _ => absurd p1 y1) (fun _ y1 _ => absurd p1 y1) (fun _ y1 _ => absurd p1 y1), q⟩
      · have t := t.2 p2
        obtain ⟨b10, t⟩ := t
        by_cases p3 : (I (x0 + 20) x4.toNatClampNeg) = (3 : Int32)
        · have t := t.1 p3
          obtain ⟨b14, t⟩ := t
          obtain ⟨hf, r, t, q⟩ := t
          exact ⟨hf, r, b_X9_value_5  h_x0 (fun y0 => absurd y0 p0) (fun y0 => absurd y0 p0) (fun _ => b4) (fun _ _ => b6) (fun _ _ => b7) (fun _ _ => b8) (fun _ _ _ => b10) (fun _ _ _ y3 => absurd p3 y3) (fun _ _ _ y3 => absurd p3 y3) (fun _ _ _ _ => b14) (fun _ _ _ _ => t) (fun _ _ y2 => absurd y2 p2) (fun _ _ y2 => absurd y2 p2) (fun _ y1 => absurd p1 y1) (fun _ y1 _ => absurd p1 y1) (fun _ y1 _ => absurd p1 y1) (fun _ y1 _ => absurd p1 y1) (fun _ y1 _ => absurd p1 y1) (fun _ y1 _ => absurd p1 y1) (fun _ y1 _ => absurd p1 y1) (fun _ y1 _ => absurd p1 y1), q⟩
        · have t := t.2 p3
          obtain ⟨b12, t⟩ := t
          obtain ⟨hf, r, t, q⟩ := t
          exact ⟨hf, r, b_X9_value_5  h_x0 (fun y0 => absurd y0 p0) (fun y0 => absurd y0 p0) (fun _ => b4) (fun _ _ => b6) (fun _ _ => b7) (fun _ _ => b8) (fun _ _ _ => b10) (fun _ _ _ _ => b12) (fun _ _ _ _ => t) (fun _ _ _ y3 => absurd y3 p3) (fun _ _ _ y3 => absurd y3 p3) (fun _ _ y2 => absurd y2 p2) (fun _ _ y2 => absurd y2 p2) (fun _ y1 => absurd p1 y1) (fun _ y1 _ => absurd p1 y1) (fun _ y1 _ => absurd p1 y1) (fun _ y1 _ => absurd p1 y1) (fun _ y1 _ => absurd p1 y1) (fun _ y1 _ => absurd p1 y1) (fun _ y1 _ => absurd p1 y1) (fun _ y1 _ => absurd p1 y1), q⟩
    · have t := t.2 p1
      obtain ⟨b18, t⟩ := t
      by_cases p2 : (I (x0 + 20) x4.toNatClampNeg) = 0
      · have t := t.1 p2
        obtain ⟨b24, t⟩ := t
        obtain ⟨b25, t⟩ := t
        obtain ⟨hf, r, t, q⟩ := t
        exact ⟨hf, r, b_X9_value_5  h_x0 (fun y0 => absurd y0 p0) (fun y0 => absurd y0 p0) (fun _ => b4) (fun _ y1 => absurd y1 p1) (fun _ y1 => absurd y1 p1) (fun _ y1 => absurd y1 p1) (fun _ y1 _ => absurd y1 p1) (fun _ y1 _ _ => absurd y1 p1) (fun _ y1 _ _ => absurd y1 p1) (fun _ y1 _ _ => absurd y1 p1) (fun _ y1 _ _ => absurd y1 p1) (fun _ y1 _ => absurd y1 p1) (fun _ y1 _ => absurd y1 p1) (fun _ _ => b18) (fun _ _ y2 => absurd p2 y2) (fun _ _ y2 => absurd p2 y2) (fun _ _ y2 => absurd p2 y2) (fun _ _ y2 => absurd p2 y2) (fun _ _ _ => b24) (fun _ _ _ => b25) (fun _ _ _ => t), q⟩
      · have t := t.2 p2
        obtain ⟨b20, t⟩ := t
        obtain ⟨b21, t⟩ := t
        obtain ⟨b22, t⟩ := t
        obtain ⟨hf, r, t, q⟩ := t
        exact ⟨hf, r, b_X9_value_5  h_x0 (fun y0 => absurd y0 p0) (fun y0 => absurd y0 p0) (fun _ => b4) (fun _ y1 => absurd y1 p1) (fun _ y1 => absurd y1 p1) (fun _ y1 => absurd y1 p1) (fun _ y1 _ => absurd y1 p1) (fun _ y1 _ _ => absurd y1 p1) (fun _ y1 _ _ => absurd y1 p1) (fun _ y1 _ _ => absurd y1 p1) (fun _ y1 _ _ => absurd y1 p1) (fun _ y1 _ => absurd y1 p1) (fun _ y1 _ => absurd y1 p1) (fun _ _ => b18) (fun _ _ _ => b20) (fun _ _ _ => b21) (fun _ _ _ => b22) (fun _ _ _ => t) (fun _ _ y2 => absurd y2 p2) (fun _ _ y2 => absurd y2 p2) (fun _ _ y2 => absurd y2 p2), q⟩
abbrev s_X9_holds_0 (γ : rG) (l : Launch) (x0 : Nat) (x1 : Int32) (h : rHeap) (Q : rHeap → Option Value → Prop) : Prop := rW γ l m_X9_holds 0 0 0 [some (.ref x0), some (.int x1), none, none, none, none, none] [] h Q
theorem w_X9_holds_0 {γ : rG} {l : Launch} {Q : rHeap → Option Value → Prop} {sh : Nat × (Nat → Nat) × (Nat → Nat)} {I : Nat → Nat → Int32} {J : Nat → Nat → Int64} {R : Nat → Nat → Option Nat} {x0 : Nat} {x1 : Int32}
    (h_x0 : At9 sh R x0)
    (t : vp_in x1 32 ∧ (vp_in x1 32 ∧ (((I (x0 + 12) x1.toNatClampNeg) = (I (x0 + 13) x1.toNatClampNeg) → (Q (sh, I, J, R) (some (.int (1 : Int32))))) ∧ (¬ (I (x0 + 12) x1.toNatClampNeg) = (I (x0 + 13) x1.toNatClampNeg) → (vp_in x1 32 ∧ (rW γ l m_X9_holds 0 0 26 [some (.ref x0), some (.int x1), some (.int (0 : Int32)), some (.int (I (x0 + 12) x1.toNatClampNeg)), none, none, none] [] (sh, I, J, R) Q)))))) :
    rW γ l m_X9_holds 0 0 0 [some (.ref x0), some (.int x1), none, none, none, none, none] [] (sh, I, J, R) Q := by
  obtain ⟨b1, t⟩ := t
  obtain ⟨b2, t⟩ := t
  by_cases p0 : (I (x0 + 12) x1.toNatClampNeg) = (I (x0 + 13) x1.toNatClampNeg)
  · have t := t.1 p0
    exact ⟨_, _, b_X9_holds_0  h_x0 b1 b2 (fun y0 => absurd p0 y0) (fun y0 => absurd p0 y0) (fun _ => ⟨rfl, rfl⟩), t⟩
  · have t := t.2 p0
    obtain ⟨b4, t⟩ := t
    obtain ⟨hf, r, t, q⟩ := t
    exact ⟨hf, r, b_X9_holds_0  h_x0 b1 b2 (fun _ => b4) (fun _ => t) (fun y0 => absurd y0 p0), q⟩
abbrev s_X9_holds_26 (γ : rG) (l : Launch) (x0 : Nat) (x1 : Int32) (x2 : Int32) (x3 : Int32) (h : rHeap) (Q : rHeap → Option Value → Prop) : Prop := rW γ l m_X9_holds 0 0 26 [some (.ref x0), some (.int x1), some (.int x2), some (.int x3), none, none, none] [] h Q
theorem w_X9_holds_26 {γ : rG} {l : Launch} {Q : rHeap → Option Value → Prop} {sh : Nat × (Nat → Nat) × (Nat → Nat)} {I : Nat → Nat → Int32} {J : Nat → Nat → Int64} {R : Nat → Nat → Option Nat} {x0 : Nat} {x1 : Int32} {x2 : Int32} {x3 : Int32}
    (h_x0 : At9 sh R x0)
    (t : vp_in x1 32 ∧ (((I (x0 + 13) x1.toNatClampNeg) ≤ x3 → ((x2 = 0 ∨ x2 = 1) ∧ (Q (sh, I, J, R) (some (.int x2))))) ∧ (¬ (I (x0 + 13) x1.toNatClampNeg) ≤ x3 → (vp_in ((((200 : Int32) * (I x0 18)) + x3)) 400 ∧ (((I (x0 + 19) ((((200 : Int32) * (I x0 18)) + x3)).toNatClampNeg) = 0 → (rW γ l m_X9_holds 0 0 64 [some (.ref x0), some (.int x1), some (.int x2), some (.int x3), some (.int (((200 : Int32) * (I x0 18)) + x3)), none, none] [] (sh, I, J, R) Q)) ∧ (¬ (I (x0 + 19) ((((200 : Int32) * (I x0 18)) + x3)).toNatClampNeg) = 0 → ((x2 = 0 → (rW γ l m_X9_holds 0 0 64 [some (.ref x0), some (.int x1), some (.int x2), some (.int x3), some (.int (((200 : Int32) * (I x0 18)) + x3)), none, none] [] (sh, I, J, R) Q)) ∧ (¬ x2 = 0 → (Q (sh, I, J, R) (some (.int (1 : Int32)))))))))))) :
    rW γ l m_X9_holds 0 0 26 [some (.ref x0), some (.int x1), some (.int x2), some (.int x3), none, none, none] [] (sh, I, J, R) Q := by
  obtain ⟨b1, t⟩ := t
  by_cases p0 : (I (x0 + 13) x1.toNatClampNeg) ≤ x3
  · have t := t.1 p0
    obtain ⟨z4, t⟩ := t
    exact ⟨_, _, b_X9_holds_26  h_x0 b1 (fun _ => ⟨rfl, rfl⟩) (fun _ => z4) (fun y0 => absurd p0 y0) (fun y0 _ => absurd p0 y0) (fun y0 _ _ => absurd p0 y0) (fun y0 _ _ => absurd p0 y0), t⟩
  · have t := t.2 p0
    obtain ⟨b5, t⟩ := t
    by_cases p1 : (I (x0 + 19) ((((200 : Int32) * (I x0 18)) + x3)).toNatClampNeg) = 0
    · have t := t.1 p1
      obtain ⟨hf, r, t, q⟩ := t
      exact ⟨hf, r, b_X9_holds_26  h_x0 b1 (fun y0 => absurd y0 p0) (fun y0 => absurd y0 p0) (fun _ => b5) (fun _ _ => t) (fun _ y1 _ => absurd p1 y1) (fun _ y1 _ => absurd p1 y1), q⟩
    · have t := t.2 p1
      by_cases p2 : x2 = 0
      · have t := t.1 p2
        obtain ⟨hf, r, t, q⟩ := t
        exact ⟨hf, r, b_X9_holds_26  h_x0 b1 (fun y0 => absurd y0 p0) (fun y0 => absurd y0 p0) (fun _ => b5) (fun _ y1 => absurd y1 p1) (fun _ _ _ => t) (fun _ _ y2 => absurd p2 y2), q⟩
      · have t := t.2 p2
        exact ⟨_, _, b_X9_holds_26  h_x0 b1 (fun y0 => absurd y0 p0) (fun y0 => absurd y0 p0) (fun _ => b5) (fun _ y1 => absurd y1 p1) (fun _ _ y2 => absurd y2 p2) (fun _ _ _ => ⟨rfl, rfl⟩), t⟩
abbrev s_X9_holds_64 (γ : rG) (l : Launch) (x0 : Nat) (x1 : Int32) (x2 : Int32) (x3 : Int32) (x4 : Int32) (h : rHeap) (Q : rHeap → Option Value → Prop) : Prop := rW γ l m_X9_holds 0 0 64 [some (.ref x0), some (.int x1), some (.int x2), some (.int x3), some (.int x4), none, none] [] h Q
theorem w_X9_holds_64 {γ : rG} {l : Launch} {Q : rHeap → Option Value → Prop} {sh : Nat × (Nat → Nat) × (Nat → Nat)} {I : Nat → Nat → Int32} {J : Nat → Nat → Int64} {R : Nat → Nat → Option Nat} {x0 : Nat} {x1 : Int32} {x2 : Int32} {x3 : Int32} {x4 : Int32}
    (h_x0 : At9 sh R x0)
    (t : vp_in x4 400 ∧ (((I (x0 + 19) x4.toNatClampNeg) = 0 → (rW γ l m_X9_holds 0 0 76 [some (.ref x0), some (.int x1), some (.int x2), some (.int x3), some (.int x4), none, none] [] (sh, I, J, R) Q)) ∧ (¬ (I (x0 + 19) x4.toNatClampNeg) = 0 → (rW γ l m_X9_holds 0 0 76 [some (.ref x0), some (.int x1), some (.int (1 : Int32)), some (.int x3), some (.int x4), none, none] [] (sh, I, J, R) Q)))) :
    rW γ l m_X9_holds 0 0 64 [some (.ref x0), some (.int x1), some (.int x2), some (.int x3), some (.int x4), none, none] [] (sh, I, J, R) Q := by
  obtain ⟨b1, t⟩ := t
  by_cases p0 : (I (x0 + 19) x4.toNatClampNeg) = 0
  · have t := t.1 p0
    obtain ⟨hf, r, t, q⟩ := t
    exact ⟨hf, r, b_X9_holds_64  h_x0 b1 (fun _ => t) (fun y0 => absurd p0 y0), q⟩
  · have t := t.2 p0
    obtain ⟨hf, r, t, q⟩ := t
    exact ⟨hf, r, b_X9_holds_64  h_x0 b1 (fun y0 => absurd y0 p0) (fun _ => t), q⟩
abbrev s_X9_holds_76 (γ : rG) (l : Launch) (x0 : Nat) (x1 : Int32) (x2 : Int32) (x3 : Int32) (x4 : Int32) (h : rHeap) (Q : rHeap → Option Value → Prop) : Prop := rW γ l m_X9_holds 0 0 76 [some (.ref x0), some (.int x1), some (.int x2), some (.int x3), some (.int x4), none, none] [] h Q
theorem w_X9_holds_76 {γ : rG} {l : Launch} {Q : rHeap → Option Value → Prop} {sh : Nat × (Nat → Nat) × (Nat → Nat)} {I : Nat → Nat → Int32} {J : Nat → Nat → Int64} {R : Nat → Nat → Option Nat} {x0 : Nat} {x1 : Int32} {x2 : Int32} {x3 : Int32} {x4 : Int32}
    (h_x0 : At9 sh R x0)
    (t : (x2 = 0 → (rW γ l m_X9_holds 0 0 26 [some (.ref x0), some (.int x1), some (.int x2), some (.int (x3 + (1 : Int32))), none, none, none] [] (sh, I, J, R) Q)) ∧ (¬ x2 = 0 → (vp_in x4 400 ∧ (vp_in x4 400 ∧ (∃ (I4 : Nat → Nat → Int32) (v6 : Int32), rMet γ l m_X9_value [.ref x0, .int (I (x0 + 16) x4.toNatClampNeg), .int (I (x0 + 17) x4.toNatClampNeg)] (sh, I, J, R) (sh, I4, J, R) (some (.int v6)) ∧ (vp_in x4 400 ∧ (vp_in x4 400 ∧ (∃ (I9 : Nat → Nat → Int32) (v11 : Int32), rMet γ l m_X9_value [.ref x0, .int (I4 (x0 + 17) x4.toNatClampNeg), .int (I4 (x0 + 18) x4.toNatClampNeg)] (sh, I4, J, R) (sh, I9, J, R) (some (.int v11)) ∧ (vp_in x4 400 ∧ (((I9 (x0 + 15) x4.toNatClampNeg) = 0 → ((v6 = v11 → (rW γ l m_X9_holds 0 0 26 [some (.ref x0), some (.int x1), some (.int (1 : Int32)), some (.int (x3 + (1 : Int32))), none, none, none] [] (sh, I9, J, R) Q)) ∧ (¬ v6 = v11 → (rW γ l m_X9_holds 0 0 26 [some (.ref x0), some (.int x1), some (.int (0 : Int32)), some (.int (x3 + (1 : Int32))), none, none, none] [] (sh, I9, J, R) Q)))) ∧ (¬ (I9 (x0 + 15) x4.toNatClampNeg) = 0 → (vp_in x4 400 ∧ (((I9 (x0 + 15) x4.toNatClampNeg) = (1 : Int32) → ((v6 = v11 → (rW γ l m_X9_holds 0 0 26 [some (.ref x0), some (.int x1), some (.int (0 : Int32)), some (.int (x3 + (1 : Int32))), none, none, none] [] (sh, I9, J, R) Q)) ∧ (¬ v6 = v11 → (rW γ l m_X9_holds 0 0 26 [some (.ref x0), some (.int x1), some (.int (1 : Int32)), some (.int (x3 + (1 : Int32))), none, none, none] [] (sh, I9, J, R) Q)))) ∧ (¬ (I9 (x0 + 15) x4.toNatClampNeg) = (1 : Int32) → (vp_in x4 400 ∧ (((I9 (x0 + 15) x4.toNatClampNeg) = (2 : Int32) → ((v11 ≤ v6 → (rW γ l m_X9_holds 0 0 26 [some (.ref x0), some (.int x1), some (.int (0 : Int32)), some (.int (x3 + (1 : Int32))), none, none, none] [] (sh, I9, J, R) Q)) ∧ (¬ v11 ≤ v6 → (rW γ l m_X9_holds 0 0 26 [some (.ref x0), some (.int x1), some (.int (1 : Int32)), some (.int (x3 + (1 : Int32))), none, none, none] [] (sh, I9, J, R) Q)))) ∧ (¬ (I9 (x0 + 15) x4.toNatClampNeg) = (2 : Int32) → ((v11 < v6 → (rW γ l m_X9_holds 0 0 26 [some (.ref x0), some (.int x1), some (.int (0 : Int32)), some (.int (x3 + (1 : Int32))), none, none, none] [] (sh, I9, J, R) Q)) ∧ (¬ v11 < v6 → (rW γ l m_X9_holds 0 0 26 [some (.ref x0), some (.int x1), some (.int (1 : Int32)), some (.int (x3 + (1 : Int32))), none, none, none] [] (sh, I9, J, R) Q)))))))))))))))))))) :
    rW γ l m_X9_holds 0 0 76 [some (.ref x0), some (.int x1), some (.int x2), some (.int x3), some (.int x4), none, none] [] (sh, I, J, R) Q := by
  by_cases p0 : x2 = 0
  · have t := t.1 p0
    obtain ⟨hf, r, t, q⟩ := t
    exact ⟨hf, r, b_X9_holds_76 (I4 := I) (v6 := 0) (I9 := I) (v11 := 0) h_x0 (fun y0 => absurd p0 y0) (fun y0 => absurd p0 y0) (fun y0 => absurd p0 y0) (fun y0 => absurd p0 y0) (fun y0 => absurd p0 y0) (fun y0 => absurd p0 y0) (fun y0 => absurd p0 y0) (fun y0 _ => absurd p0 y0) (fun y0 _ _ => absurd p0 y0) (fun y0 _ _ _ _ => absurd p0 y0) (fun y0 _ _ _ _ => absurd p0 y0) (fun y0 _ _ _ _ => absurd p0 y0) (fun y0 _ _ _ _ => absurd p0 y0) (fun y0 _ _ _ => absurd p0 y0) (fun y0 _ _ _ => absurd p0 y0) (fun y0 _ _ => absurd p0 y0) (fun y0 _ _ => absurd p0 y0) (fun _ => t), q⟩
  · have t := t.2 p0
    obtain ⟨b2, t⟩ := t
    obtain ⟨b3, t⟩ := t
    obtain ⟨I4, v6, m5, t⟩ := t
    obtain ⟨b7, t⟩ := t
    obtain ⟨b8, t⟩ := t
    obtain ⟨I9, v11, m10, t⟩ := t
    obtain ⟨b12, t⟩ := t
    by_cases p1 : (I9 (x0 + 15) x4.toNatClampNeg) = 0
    · have t := t.1 p1
      by_cases p2 : v6 = v11
      · have t := t.1 p2
        obtain ⟨hf, r, t, q⟩ := t
        exact ⟨hf, r, b_X9_holds_76  h_x0 (fun _ => b2) (fun _ => b3) (fun _ => m5) (fun _ => b7) (fun _ => b8) (fun _ => m10) (fun _ => b12) (fun _ y1 => absurd p1 y1) (fun _ y1 _ => absurd p1 y1) (fun _ y1 _ _ _ => absurd p1 y1) (fun _ y1 _ _ _ => absurd p1 y1) (fun _ y1 _ _ _ => absurd p1 y1) (fun _ y1 _ _ _ => absurd p1 y1) (fun _ y1 _ _ => absurd p1 y1) (fun _ y1 _ _ => absurd p1 y1) (fun _ _ y2 => absurd p2 y2) (fun _ _ _ => t) (fun y0 => absurd y0 p0), q⟩
      · have t := t.2 p2
        obtain ⟨hf, r, t, q⟩ := t
        exact ⟨hf, r, b_X9_holds_76  h_x0 (fun _ => b2) (fun _ => b3) (fun _ => m5) (fun _ => b7) (fun _ => b8) (fun _ => m10) (fun _ => b12) (fun _ y1 => absurd p1 y1) (fun _ y1 _ => absurd p1 y1) (fun _ y1 _ _ _ => absurd p1 y1) (fun _ y1 _ _ _ => absurd p1 y1) (fun _ y1 _ _ _ => absurd p1 y1) (fun _ y1 _ _ _ => absurd p1 y1) (fun _ y1 _ _ => absurd p1 y1) (fun _ y1 _ _ => absurd p1 y1) (fun _ _ _ => t) (fun _ _ y2 => absurd y2 p2) (fun y0 => absurd y0 p0), q⟩
    · have t := t.2 p1
      obtain ⟨b14, t⟩ := t
      by_cases p2 : (I9 (x0 + 15) x4.toNatClampNeg) = (1 : Int32)
      · have t := t.1 p2
        by_cases p3 : v6 = v11
        · have t := t.1 p3
          obtain ⟨hf, r, t, q⟩ := t
          exact ⟨hf, r, b_X9_holds_76  h_x0 (fun _ => b2) (fun _ => b3) (fun _ => m5) (fun _ => b7) (fun _ => b8) (fun _ => m10) (fun _ => b12) (fun _ _ => b14) (fun _ _ y2 => absurd p2 y2) (fun _ _ y2 _ _ => absurd p2 y2) (fun _ _ y2 _ _ => absurd p2 y2) (fun _ _ y2 _ _ => absurd p2 y2) (fun _ _ y2 _ _ => absurd p2 y2) (fun _ _ _ _ => t) (fun _ _ _ y3 => absurd p3 y3) (fun _ y1 _ => absurd y1 p1) (fun _ y1 _ => absurd y1 p1) (fun y0 => absurd y0 p0), q⟩
        · have t := t.2 p3
          obtain ⟨hf, r, t, q⟩ := t
          exact ⟨hf, r, b_X9_holds_76  h_x0 (fun _ => b2) (fun _ => b3) (fun _ => m5) (fun _ => b7) (fun _ => b8) (fun _ => m10) (fun _ => b12) (fun _ _ => b14) (fun _ _ y2 => absurd p2 y2) (fun _ _ y2 _ _ => absurd p2 y2) (fun _ _ y2 _ _ => absurd p2 y2) (fun _ _ y2 _ _ => absurd p2 y2) (fun _ _ y2 _ _ => absurd p2 y2) (fun _ _ _ y3 => absurd y3 p3) (fun _ _ _ _ => t) (fun _ y1 _ => absurd y1 p1) (fun _ y1 _ => absurd y1 p1) (fun y0 => absurd y0 p0), q⟩
      · have t := t.2 p2
        obtain ⟨b16, t⟩ := t
        by_cases p3 : (I9 (x0 + 15) x4.toNatClampNeg) = (2 : Int32)
        · have t := t.1 p3
          by_cases p4 : v11 ≤ v6
          · have t := t.1 p4
            obtain ⟨hf, r, t, q⟩ := t
            exact ⟨hf, r, b_X9_holds_76  h_x0 (fun _ => b2) (fun _ => b3) (fun _ => m5) (fun _ => b7) (fun _ => b8) (fun _ => m10) (fun _ => b12) (fun _ _ => b14) (fun _ _ _ => b16) (fun _ _ _ y3 _ => absurd p3 y3) (fun _ _ _ y3 _ => absurd p3 y3) (fun _ _ _ _ _ => t) (fun _ _ _ _ y4 => absurd p4 y4) (fun _ _ y2 _ => absurd y2 p2) (fun _ _ y2 _ => absurd y2 p2) (fun _ y1 _ => absurd y1 p1) (fun _ y1 _ => absurd y1 p1) (fun y0 => absurd y0 p0), q⟩
          · have t := t.2 p4
            obtain ⟨hf, r, t, q⟩ := t
            exact ⟨hf, r, b_X9_holds_76  h_x0 (fun _ => b2) (fun _ => b3) (fun _ => m5) (fun _ => b7) (fun _ => b8) (fun _ => m10) (fun _ => b12) (fun _ _ => b14) (fun _ _ _ => b16) (fun _ _ _ y3 _ => absurd p3 y3) (fun _ _ _ y3 _ => absurd p3 y3) (fun _ _ _ _ y4 => absurd y4 p4) (fun _ _ _ _ _ => t) (fun _ _ y2 _ => absurd y2 p2) (fun _ _ y2 _ => absurd y2 p2) (fun _ y1 _ => absurd y1 p1) (fun _ y1 _ => absurd y1 p1) (fun y0 => absurd y0 p0), q⟩
        · have t := t.2 p3
          by_cases p4 : v11 < v6
          · have t := t.1 p4
            obtain ⟨hf, r, t, q⟩ := t
            exact ⟨hf, r, b_X9_holds_76  h_x0 (fun _ => b2) (fun _ => b3) (fun _ => m5) (fun _ => b7) (fun _ => b8) (fun _ => m10) (fun _ => b12) (fun _ _ => b14) (fun _ _ _ => b16) (fun _ _ _ _ _ => t) (fun _ _ _ _ y4 => absurd p4 y4) (fun _ _ _ y3 _ => absurd y3 p3) (fun _ _ _ y3 _ => absurd y3 p3) (fun _ _ y2 _ => absurd y2 p2) (fun _ _ y2 _ => absurd y2 p2) (fun _ y1 _ => absurd y1 p1) (fun _ y1 _ => absurd y1 p1) (fun y0 => absurd y0 p0), q⟩
          · have t := t.2 p4
            obtain ⟨hf, r, t, q⟩ := t
            exact ⟨hf, r, b_X9_holds_76  h_x0 (fun _ => b2) (fun _ => b3) (fun _ => m5) (fun _ => b7) (fun _ => b8) (fun _ => m10) (fun _ => b12) (fun _ _ => b14) (fun _ _ _ => b16) (fun _ _ _ _ y4 => absurd y4 p4) (fun _ _ _ _ _ => t) (fun _ _ _ y3 _ => absurd y3 p3) (fun _ _ _ y3 _ => absurd y3 p3) (fun _ _ y2 _ => absurd y2 p2) (fun _ _ y2 _ => absurd y2 p2) (fun _ y1 _ => absurd y1 p1) (fun _ y1 _ => absurd y1 p1) (fun y0 => absurd y0 p0), q⟩
abbrev s_X9_asks_0 (γ : rG) (l : Launch) (x0 : Nat) (x1 : Int32) (x2 : Int32) (x3 : Int32) (x4 : Int32) (x5 : Int32) (h : rHeap) (Q : rHeap → Option Value → Prop) : Prop := rW γ l m_X9_asks 0 0 0 [some (.ref x0), some (.int x1), some (.int x2), some (.int x3), some (.int x4), some (.int x5)] [] h Q
theorem w_X9_asks_0 {γ : rG} {l : Launch} {Q : rHeap → Option Value → Prop} {sh : Nat × (Nat → Nat) × (Nat → Nat)} {I : Nat → Nat → Int32} {J : Nat → Nat → Int64} {R : Nat → Nat → Option Nat} {x0 : Nat} {x1 : Int32} {x2 : Int32} {x3 : Int32} {x4 : Int32} {x5 : Int32}
    (h_x0 : At9 sh R x0)
    (t : vp_in (0 : Int32) 5 ∧ (vp_in (1 : Int32) 5 ∧ (vp_in (2 : Int32) 5 ∧ (vp_in (3 : Int32) 5 ∧ (vp_in (4 : Int32) 5 ∧ (Q (sh, (up (up (up (up (up I (x0 + 23) (0 : Int32).toNatClampNeg x1) (x0 + 23) (1 : Int32).toNatClampNeg x2) (x0 + 23) (2 : Int32).toNatClampNeg x3) (x0 + 23) (3 : Int32).toNatClampNeg x4) (x0 + 23) (4 : Int32).toNatClampNeg x5), J, R) (none))))))) :
    rW γ l m_X9_asks 0 0 0 [some (.ref x0), some (.int x1), some (.int x2), some (.int x3), some (.int x4), some (.int x5)] [] (sh, I, J, R) Q := by
  obtain ⟨b1, t⟩ := t
  obtain ⟨b2, t⟩ := t
  obtain ⟨b3, t⟩ := t
  obtain ⟨b4, t⟩ := t
  obtain ⟨b5, t⟩ := t
  exact ⟨_, _, b_X9_asks_0  h_x0 b1 b2 b3 b4 b5 ⟨rfl, rfl⟩, t⟩
abbrev s_X9_ruleOf_0 (γ : rG) (l : Launch) (x0 : Nat) (x1 : Int32) (h : rHeap) (Q : rHeap → Option Value → Prop) : Prop := rW γ l m_X9_ruleOf 0 0 0 [some (.ref x0), some (.int x1), none] [] h Q
theorem w_X9_ruleOf_0 {γ : rG} {l : Launch} {Q : rHeap → Option Value → Prop} {sh : Nat × (Nat → Nat) × (Nat → Nat)} {I : Nat → Nat → Int32} {J : Nat → Nat → Int64} {R : Nat → Nat → Option Nat} {x0 : Nat} {x1 : Int32}
    (h_x0 : At9 sh R x0)
    (t : rW γ l m_X9_ruleOf 0 0 2 [some (.ref x0), some (.int x1), some (.int (0 : Int32))] [] (sh, I, J, R) Q) :
    rW γ l m_X9_ruleOf 0 0 0 [some (.ref x0), some (.int x1), none] [] (sh, I, J, R) Q := by
  obtain ⟨hf, r, t, q⟩ := t
  exact ⟨hf, r, b_X9_ruleOf_0  h_x0 t, q⟩
abbrev s_X9_ruleOf_2 (γ : rG) (l : Launch) (x0 : Nat) (x1 : Int32) (x2 : Int32) (h : rHeap) (Q : rHeap → Option Value → Prop) : Prop := rW γ l m_X9_ruleOf 0 0 2 [some (.ref x0), some (.int x1), some (.int x2)] [] h Q
theorem w_X9_ruleOf_2 {γ : rG} {l : Launch} {Q : rHeap → Option Value → Prop} {sh : Nat × (Nat → Nat) × (Nat → Nat)} {I : Nat → Nat → Int32} {J : Nat → Nat → Int64} {R : Nat → Nat → Option Nat} {x0 : Nat} {x1 : Int32} {x2 : Int32}
    (h_x0 : At9 sh R x0)
    (t : vp_in (I x0 18) 2 ∧ (((I (x0 + 8) (I x0 18).toNatClampNeg) ≤ x2 → (Q (sh, I, J, R) (some (.int (-1 : Int32))))) ∧ (¬ (I (x0 + 8) (I x0 18).toNatClampNeg) ≤ x2 → (vp_in ((((16 : Int32) * (I x0 18)) + x2)) 32 ∧ (((I (x0 + 9) ((((16 : Int32) * (I x0 18)) + x2)).toNatClampNeg) = x1 → (∃ (I7 : Nat → Nat → Int32) (v9 : Int32), rMet γ l m_X9_holds [.ref x0, .int (((16 : Int32) * (I x0 18)) + x2)] (sh, I, J, R) (sh, I7, J, R) (some (.int v9)) ∧ ((v9 = 0 → (rW γ l m_X9_ruleOf 0 0 2 [some (.ref x0), some (.int x1), some (.int (x2 + (1 : Int32)))] [] (sh, I7, J, R) Q)) ∧ (¬ v9 = 0 → (Q (sh, I7, J, R) (some (.int x2))))))) ∧ (¬ (I (x0 + 9) ((((16 : Int32) * (I x0 18)) + x2)).toNatClampNeg) = x1 → (rW γ l m_X9_ruleOf 0 0 2 [some (.ref x0), some (.int x1), some (.int (x2 + (1 : Int32)))] [] (sh, I, J, R) Q))))))) :
    rW γ l m_X9_ruleOf 0 0 2 [some (.ref x0), some (.int x1), some (.int x2)] [] (sh, I, J, R) Q := by
  obtain ⟨b1, t⟩ := t
  by_cases p0 : (I (x0 + 8) (I x0 18).toNatClampNeg) ≤ x2
  · have t := t.1 p0
    exact ⟨_, _, b_X9_ruleOf_2 (I7 := I) (v9 := 0) h_x0 b1 (fun _ => ⟨rfl, rfl⟩) (fun y0 => absurd p0 y0) (fun y0 _ => absurd p0 y0) (fun y0 _ => absurd p0 y0) (fun y0 _ _ => absurd p0 y0) (fun y0 _ _ => absurd p0 y0), t⟩
  · have t := t.2 p0
    obtain ⟨b4, t⟩ := t
    by_cases p1 : (I (x0 + 9) ((((16 : Int32) * (I x0 18)) + x2)).toNatClampNeg) = x1
    · have t := t.1 p1
      obtain ⟨I7, v9, m8, t⟩ := t
      by_cases p2 : v9 = 0
      · have t := t.1 p2
        obtain ⟨hf, r, t, q⟩ := t
        exact ⟨hf, r, b_X9_ruleOf_2  h_x0 b1 (fun y0 => absurd y0 p0) (fun _ => b4) (fun _ y1 => absurd p1 y1) (fun _ _ => m8) (fun _ _ _ => t) (fun _ _ y2 => absurd p2 y2), q⟩
      · have t := t.2 p2
        exact ⟨_, _, b_X9_ruleOf_2  h_x0 b1 (fun y0 => absurd y0 p0) (fun _ => b4) (fun _ y1 => absurd p1 y1) (fun _ _ => m8) (fun _ _ y2 => absurd y2 p2) (fun _ _ _ => ⟨rfl, rfl⟩), t⟩
    · have t := t.2 p1
      obtain ⟨hf, r, t, q⟩ := t
      exact ⟨hf, r, b_X9_ruleOf_2 (I7 := I) (v9 := 0) h_x0 b1 (fun y0 => absurd y0 p0) (fun _ => b4) (fun _ _ => t) (fun _ y1 => absurd y1 p1) (fun _ y1 _ => absurd y1 p1) (fun _ y1 _ => absurd y1 p1), q⟩
abbrev s_X9_says_0 (γ : rG) (l : Launch) (x0 : Nat) (x1 : Int32) (h : rHeap) (Q : rHeap → Option Value → Prop) : Prop := rW γ l m_X9_says 0 0 0 [some (.ref x0), some (.int x1), none] [] h Q
theorem w_X9_says_0 {γ : rG} {l : Launch} {Q : rHeap → Option Value → Prop} {sh : Nat × (Nat → Nat) × (Nat → Nat)} {I : Nat → Nat → Int32} {J : Nat → Nat → Int64} {R : Nat → Nat → Option Nat} {x0 : Nat} {x1 : Int32}
    (h_x0 : At9 sh R x0)
    (t : vp_in ((((16 : Int32) * (I x0 18)) + x1)) 32 ∧ (vp_in ((((16 : Int32) * (I x0 18)) + x1)) 32 ∧ (∃ (I3 : Nat → Nat → Int32) (v5 : Int32), rMet γ l m_X9_value [.ref x0, .int (I (x0 + 10) ((((16 : Int32) * (I x0 18)) + x1)).toNatClampNeg), .int (I (x0 + 11) ((((16 : Int32) * (I x0 18)) + x1)).toNatClampNeg)] (sh, I, J, R) (sh, I3, J, R) (some (.int v5)) ∧ ((0 ≤ v5 → ((v5 ≤ (1000 : Int32) → (Q (sh, I3, J, R) (some (.int v5)))) ∧ (¬ v5 ≤ (1000 : Int32) → (Q (sh, I3, J, R) (some (.int (1000 : Int32))))))) ∧ (¬ 0 ≤ v5 → (Q (sh, I3, J, R) (some (.int (0 : Int32))))))))) :
    rW γ l m_X9_says 0 0 0 [some (.ref x0), some (.int x1), none] [] (sh, I, J, R) Q := by
  obtain ⟨b1, t⟩ := t
  obtain ⟨b2, t⟩ := t
  obtain ⟨I3, v5, m4, t⟩ := t
  by_cases p0 : 0 ≤ v5
  · have t := t.1 p0
    by_cases p1 : v5 ≤ (1000 : Int32)
    · have t := t.1 p1
      exact ⟨_, _, b_X9_says_0  h_x0 b1 b2 m4 (fun _ _ => ⟨rfl, rfl⟩) (fun _ y1 => absurd p1 y1) (fun y0 => absurd p0 y0), t⟩
    · have t := t.2 p1
      exact ⟨_, _, b_X9_says_0  h_x0 b1 b2 m4 (fun _ y1 => absurd y1 p1) (fun _ _ => ⟨rfl, rfl⟩) (fun y0 => absurd p0 y0), t⟩
  · have t := t.2 p0
    exact ⟨_, _, b_X9_says_0  h_x0 b1 b2 m4 (fun y0 _ => absurd y0 p0) (fun y0 _ => absurd y0 p0) (fun _ => ⟨rfl, rfl⟩), t⟩
abbrev s_X9_flat_0 (γ : rG) (l : Launch) (x0 : Nat) (x1 : Int32) (h : rHeap) (Q : rHeap → Option Value → Prop) : Prop := rW γ l m_X9_flat 0 0 0 [some (.ref x0), some (.int x1), none] [] h Q
theorem w_X9_flat_0 {γ : rG} {l : Launch} {Q : rHeap → Option Value → Prop} {sh : Nat × (Nat → Nat) × (Nat → Nat)} {I : Nat → Nat → Int32} {J : Nat → Nat → Int64} {R : Nat → Nat → Option Nat} {x0 : Nat} {x1 : Int32}
    (h_x0 : At9 sh R x0)
    (t : vp_in x1 22 ∧ (rW γ l m_X9_flat 0 0 12 [some (.ref x0), some (.int x1), some (.int (0 : Int32))] [] (sh, (up I (x0 + 25) x1.toNatClampNeg (I x0 39)), J, R) Q)) :
    rW γ l m_X9_flat 0 0 0 [some (.ref x0), some (.int x1), none] [] (sh, I, J, R) Q := by
  obtain ⟨b1, t⟩ := t
  obtain ⟨hf, r, t, q⟩ := t
  exact ⟨hf, r, b_X9_flat_0  h_x0 b1 t, q⟩
abbrev s_X9_flat_12 (γ : rG) (l : Launch) (x0 : Nat) (x1 : Int32) (x2 : Int32) (h : rHeap) (Q : rHeap → Option Value → Prop) : Prop := rW γ l m_X9_flat 0 0 12 [some (.ref x0), some (.int x1), some (.int x2)] [] h Q
theorem w_X9_flat_12 {γ : rG} {l : Launch} {Q : rHeap → Option Value → Prop} {sh : Nat × (Nat → Nat) × (Nat → Nat)} {I : Nat → Nat → Int32} {J : Nat → Nat → Int64} {R : Nat → Nat → Option Nat} {x0 : Nat} {x1 : Int32} {x2 : Int32}
    (h_x0 : At9 sh R x0)
    (t : ((I x0 39) ≤ x2 → (Q (sh, I, J, R) (none))) ∧ (¬ (I x0 39) ≤ x2 → (vp_in ((((8 : Int32) * x1) + x2)) 176 ∧ (vp_in ((((8 : Int32) * x1) + x2)) 176 ∧ (vp_in ((((8 : Int32) * x1) + x2)) 176 ∧ (rW γ l m_X9_flat 0 0 12 [some (.ref x0), some (.int x1), some (.int (x2 + (1 : Int32)))] [] (sh, (up (up (up I (x0 + 26) ((((8 : Int32) * x1) + x2)).toNatClampNeg x2) (x0 + 27) ((((8 : Int32) * x1) + x2)).toNatClampNeg (0 : Int32)) (x0 + 28) ((((8 : Int32) * x1) + x2)).toNatClampNeg (vp_nar .boolean (1 : Int32))), J, R) Q)))))) :
    rW γ l m_X9_flat 0 0 12 [some (.ref x0), some (.int x1), some (.int x2)] [] (sh, I, J, R) Q := by
  by_cases p0 : (I x0 39) ≤ x2
  · have t := t.1 p0
    exact ⟨_, _, b_X9_flat_12  h_x0 (fun _ => ⟨rfl, rfl⟩) (fun y0 => absurd p0 y0) (fun y0 => absurd p0 y0) (fun y0 => absurd p0 y0) (fun y0 => absurd p0 y0), t⟩
  · have t := t.2 p0
    obtain ⟨b3, t⟩ := t
    obtain ⟨b4, t⟩ := t
    obtain ⟨b5, t⟩ := t
    obtain ⟨hf, r, t, q⟩ := t
    exact ⟨hf, r, b_X9_flat_12  h_x0 (fun y0 => absurd y0 p0) (fun _ => b3) (fun _ => b4) (fun _ => b5) (fun _ => t), q⟩
abbrev s_X9_layersOf_0 (γ : rG) (l : Launch) (x0 : Nat) (x1 : Int32) (x2 : Int32) (h : rHeap) (Q : rHeap → Option Value → Prop) : Prop := rW γ l m_X9_layersOf 0 0 0 [some (.ref x0), some (.int x1), some (.int x2), none, none] [] h Q
theorem w_X9_layersOf_0 {γ : rG} {l : Launch} {Q : rHeap → Option Value → Prop} {sh : Nat × (Nat → Nat) × (Nat → Nat)} {I : Nat → Nat → Int32} {J : Nat → Nat → Int64} {R : Nat → Nat → Option Nat} {x0 : Nat} {x1 : Int32} {x2 : Int32}
    (h_x0 : At9 sh R x0)
    (t : rW γ l m_X9_layersOf 0 0 5 [some (.ref x0), some (.int x1), some (.int x2), some (.int (0 : Int32)), some (.int (0 : Int32))] [] (sh, I, J, R) Q) :
    rW γ l m_X9_layersOf 0 0 0 [some (.ref x0), some (.int x1), some (.int x2), none, none] [] (sh, I, J, R) Q := by
  obtain ⟨hf, r, t, q⟩ := t
  exact ⟨hf, r, b_X9_layersOf_0  h_x0 t, q⟩
abbrev s_X9_layersOf_5 (γ : rG) (l : Launch) (x0 : Nat) (x1 : Int32) (x2 : Int32) (x3 : Int32) (x4 : Int32) (h : rHeap) (Q : rHeap → Option Value → Prop) : Prop := rW γ l m_X9_layersOf 0 0 5 [some (.ref x0), some (.int x1), some (.int x2), some (.int x3), some (.int x4)] [] h Q
theorem w_X9_layersOf_5 {γ : rG} {l : Launch} {Q : rHeap → Option Value → Prop} {sh : Nat × (Nat → Nat) × (Nat → Nat)} {I : Nat → Nat → Int32} {J : Nat → Nat → Int64} {R : Nat → Nat → Option Nat} {x0 : Nat} {x1 : Int32} {x2 : Int32} {x3 : Int32} {x4 : Int32}
    (h_x0 : At9 sh R x0)
    (t : ((I x0 39) ≤ x4 → (Q (sh, I, J, R) (some (.int x3)))) ∧ (¬ (I x0 39) ≤ x4 → (vp_in ((((8 : Int32) * x1) + x4)) 176 ∧ (((I (x0 + 26) ((((8 : Int32) * x1) + x4)).toNatClampNeg) = x2 → (rW γ l m_X9_layersOf 0 0 5 [some (.ref x0), some (.int x1), some (.int x2), some (.int (x3 + (1 : Int32))), some (.int (x4 + (1 : Int32)))] [] (sh, I, J, R) Q)) ∧ (¬ (I (x0 + 26) ((((8 : Int32) * x1) + x4)).toNatClampNeg) = x2 → (rW γ l m_X9_layersOf 0 0 5 [some (.ref x0), some (.int x1), some (.int x2), some (.int x3), some (.int (x4 + (1 : Int32)))] [] (sh, I, J, R) Q)))))) :
    rW γ l m_X9_layersOf 0 0 5 [some (.ref x0), some (.int x1), some (.int x2), some (.int x3), some (.int x4)] [] (sh, I, J, R) Q := by
  by_cases p0 : (I x0 39) ≤ x4
  · have t := t.1 p0
    exact ⟨_, _, b_X9_layersOf_5  h_x0 (fun _ => ⟨rfl, rfl⟩) (fun y0 => absurd p0 y0) (fun y0 _ => absurd p0 y0) (fun y0 _ => absurd p0 y0), t⟩
  · have t := t.2 p0
    obtain ⟨b3, t⟩ := t
    by_cases p1 : (I (x0 + 26) ((((8 : Int32) * x1) + x4)).toNatClampNeg) = x2
    · have t := t.1 p1
      obtain ⟨hf, r, t, q⟩ := t
      exact ⟨hf, r, b_X9_layersOf_5  h_x0 (fun y0 => absurd y0 p0) (fun _ => b3) (fun _ y1 => absurd p1 y1) (fun _ _ => t), q⟩
    · have t := t.2 p1
      obtain ⟨hf, r, t, q⟩ := t
      exact ⟨hf, r, b_X9_layersOf_5  h_x0 (fun y0 => absurd y0 p0) (fun _ => b3) (fun _ _ => t) (fun _ y1 => absurd y1 p1), q⟩
abbrev s_X9_partAt_0 (γ : rG) (l : Launch) (x0 : Nat) (x1 : Int32) (x2 : Int32) (x3 : Int32) (h : rHeap) (Q : rHeap → Option Value → Prop) : Prop := rW γ l m_X9_partAt 0 0 0 [some (.ref x0), some (.int x1), some (.int x2), some (.int x3), none] [] h Q
theorem w_X9_partAt_0 {γ : rG} {l : Launch} {Q : rHeap → Option Value → Prop} {sh : Nat × (Nat → Nat) × (Nat → Nat)} {I : Nat → Nat → Int32} {J : Nat → Nat → Int64} {R : Nat → Nat → Option Nat} {x0 : Nat} {x1 : Int32} {x2 : Int32} {x3 : Int32}
    (h_x0 : At9 sh R x0)
    (t : rW γ l m_X9_partAt 0 0 3 [some (.ref x0), some (.int x1), some (.int x2), some (.int x3), some (.int (0 : Int32))] [] (sh, I, J, R) Q) :
    rW γ l m_X9_partAt 0 0 0 [some (.ref x0), some (.int x1), some (.int x2), some (.int x3), none] [] (sh, I, J, R) Q := by
  obtain ⟨hf, r, t, q⟩ := t
  exact ⟨hf, r, b_X9_partAt_0  h_x0 t, q⟩
abbrev s_X9_partAt_3 (γ : rG) (l : Launch) (x0 : Nat) (x1 : Int32) (x2 : Int32) (x3 : Int32) (x4 : Int32) (h : rHeap) (Q : rHeap → Option Value → Prop) : Prop := rW γ l m_X9_partAt 0 0 3 [some (.ref x0), some (.int x1), some (.int x2), some (.int x3), some (.int x4)] [] h Q
theorem w_X9_partAt_3 {γ : rG} {l : Launch} {Q : rHeap → Option Value → Prop} {sh : Nat × (Nat → Nat) × (Nat → Nat)} {I : Nat → Nat → Int32} {J : Nat → Nat → Int64} {R : Nat → Nat → Option Nat} {x0 : Nat} {x1 : Int32} {x2 : Int32} {x3 : Int32} {x4 : Int32}
    (h_x0 : At9 sh R x0)
    (t : ((I x0 39) ≤ x4 → (Q (sh, I, J, R) (some (.int (-1 : Int32))))) ∧ (¬ (I x0 39) ≤ x4 → (vp_in ((((8 : Int32) * x1) + x4)) 176 ∧ (((I (x0 + 26) ((((8 : Int32) * x1) + x4)).toNatClampNeg) = x2 → (vp_in ((((8 : Int32) * x1) + x4)) 176 ∧ (((I (x0 + 27) ((((8 : Int32) * x1) + x4)).toNatClampNeg) = x3 → (Q (sh, I, J, R) (some (.int x4)))) ∧ (¬ (I (x0 + 27) ((((8 : Int32) * x1) + x4)).toNatClampNeg) = x3 → (rW γ l m_X9_partAt 0 0 3 [some (.ref x0), some (.int x1), some (.int x2), some (.int x3), some (.int (x4 + (1 : Int32)))] [] (sh, I, J, R) Q))))) ∧ (¬ (I (x0 + 26) ((((8 : Int32) * x1) + x4)).toNatClampNeg) = x2 → (rW γ l m_X9_partAt 0 0 3 [some (.ref x0), some (.int x1), some (.int x2), some (.int x3), some (.int (x4 + (1 : Int32)))] [] (sh, I, J, R) Q)))))) :
    rW γ l m_X9_partAt 0 0 3 [some (.ref x0), some (.int x1), some (.int x2), some (.int x3), some (.int x4)] [] (sh, I, J, R) Q := by
  by_cases p0 : (I x0 39) ≤ x4
  · have t := t.1 p0
    exact ⟨_, _, b_X9_partAt_3  h_x0 (fun _ => ⟨rfl, rfl⟩) (fun y0 => absurd p0 y0) (fun y0 _ => absurd p0 y0) (fun y0 _ => absurd p0 y0) (fun y0 _ _ => absurd p0 y0) (fun y0 _ _ => absurd p0 y0), t⟩
  · have t := t.2 p0
    obtain ⟨b3, t⟩ := t
    by_cases p1 : (I (x0 + 26) ((((8 : Int32) * x1) + x4)).toNatClampNeg) = x2
    · have t := t.1 p1
      obtain ⟨b6, t⟩ := t
      by_cases p2 : (I (x0 + 27) ((((8 : Int32) * x1) + x4)).toNatClampNeg) = x3
      · have t := t.1 p2
        exact ⟨_, _, b_X9_partAt_3  h_x0 (fun y0 => absurd y0 p0) (fun _ => b3) (fun _ y1 => absurd p1 y1) (fun _ _ => b6) (fun _ _ y2 => absurd p2 y2) (fun _ _ _ => ⟨rfl, rfl⟩), t⟩
      · have t := t.2 p2
        obtain ⟨hf, r, t, q⟩ := t
        exact ⟨hf, r, b_X9_partAt_3  h_x0 (fun y0 => absurd y0 p0) (fun _ => b3) (fun _ y1 => absurd p1 y1) (fun _ _ => b6) (fun _ _ _ => t) (fun _ _ y2 => absurd y2 p2), q⟩
    · have t := t.2 p1
      obtain ⟨hf, r, t, q⟩ := t
      exact ⟨hf, r, b_X9_partAt_3  h_x0 (fun y0 => absurd y0 p0) (fun _ => b3) (fun _ _ => t) (fun _ y1 => absurd y1 p1) (fun _ y1 _ => absurd y1 p1) (fun _ y1 _ => absurd y1 p1), q⟩
abbrev s_X9_copies_0 (γ : rG) (l : Launch) (x0 : Nat) (x1 : Int32) (x2 : Int32) (h : rHeap) (Q : rHeap → Option Value → Prop) : Prop := rW γ l m_X9_copies 0 0 0 [some (.ref x0), some (.int x1), some (.int x2), none] [] h Q
theorem w_X9_copies_0 {γ : rG} {l : Launch} {Q : rHeap → Option Value → Prop} {sh : Nat × (Nat → Nat) × (Nat → Nat)} {I : Nat → Nat → Int32} {J : Nat → Nat → Int64} {R : Nat → Nat → Option Nat} {x0 : Nat} {x1 : Int32} {x2 : Int32}
    (h_x0 : At9 sh R x0)
    (t : vp_in x1 22 ∧ (vp_in x2 22 ∧ (rW γ l m_X9_copies 0 0 14 [some (.ref x0), some (.int x1), some (.int x2), some (.int (0 : Int32))] [] (sh, (up I (x0 + 25) x2.toNatClampNeg ((I (x0 + 25) x1.toNatClampNeg))), J, R) Q))) :
    rW γ l m_X9_copies 0 0 0 [some (.ref x0), some (.int x1), some (.int x2), none] [] (sh, I, J, R) Q := by
  obtain ⟨b1, t⟩ := t
  obtain ⟨b2, t⟩ := t
  obtain ⟨hf, r, t, q⟩ := t
  exact ⟨hf, r, b_X9_copies_0  h_x0 b1 b2 t, q⟩
abbrev s_X9_copies_14 (γ : rG) (l : Launch) (x0 : Nat) (x1 : Int32) (x2 : Int32) (x3 : Int32) (h : rHeap) (Q : rHeap → Option Value → Prop) : Prop := rW γ l m_X9_copies 0 0 14 [some (.ref x0), some (.int x1), some (.int x2), some (.int x3)] [] h Q
theorem w_X9_copies_14 {γ : rG} {l : Launch} {Q : rHeap → Option Value → Prop} {sh : Nat × (Nat → Nat) × (Nat → Nat)} {I : Nat → Nat → Int32} {J : Nat → Nat → Int64} {R : Nat → Nat → Option Nat} {x0 : Nat} {x1 : Int32} {x2 : Int32} {x3 : Int32}
    (h_x0 : At9 sh R x0)
    (t : ((I x0 39) ≤ x3 → (Q (sh, I, J, R) (none))) ∧ (¬ (I x0 39) ≤ x3 → (vp_in ((((8 : Int32) * x1) + x3)) 176 ∧ (vp_in ((((8 : Int32) * x2) + x3)) 176 ∧ (vp_in ((((8 : Int32) * x1) + x3)) 176 ∧ (vp_in ((((8 : Int32) * x2) + x3)) 176 ∧ (vp_in ((((8 : Int32) * x1) + x3)) 176 ∧ (vp_in ((((8 : Int32) * x2) + x3)) 176 ∧ (rW γ l m_X9_copies 0 0 14 [some (.ref x0), some (.int x1), some (.int x2), some (.int (x3 + (1 : Int32)))] [] (sh, (up (up (up I (x0 + 26) ((((8 : Int32) * x2) + x3)).toNatClampNeg ((I (x0 + 26) ((((8 : Int32) * x1) + x3)).toNatClampNeg))) (x0 + 27) ((((8 : Int32) * x2) + x3)).toNatClampNeg (((up I (x0 + 26) ((((8 : Int32) * x2) + x3)).toNatClampNeg ((I (x0 + 26) ((((8 : Int32) * x1) + x3)).toNatClampNeg))) (x0 + 27) ((((8 : Int32) * x1) + x3)).toNatClampNeg))) (x0 + 28) ((((8 : Int32) * x2) + x3)).toNatClampNeg (vp_nar .boolean (((up (up I (x0 + 26) ((((8 : Int32) * x2) + x3)).toNatClampNeg ((I (x0 + 26) ((((8 : Int32) * x1) + x3)).toNatClampNeg))) (x0 + 27) ((((8 : Int32) * x2) + x3)).toNatClampNeg (((up I (x0 + 26) ((((8 : Int32) * x2) + x3)).toNatClampNeg ((I (x0 + 26) ((((8 : Int32) * x1) + x3)).toNatClampNeg))) (x0 + 27) ((((8 : Int32) * x1) + x3)).toNatClampNeg))) (x0 + 28) ((((8 : Int32) * x1) + x3)).toNatClampNeg)))), J, R) Q))))))))) :
    rW γ l m_X9_copies 0 0 14 [some (.ref x0), some (.int x1), some (.int x2), some (.int x3)] [] (sh, I, J, R) Q := by
  by_cases p0 : (I x0 39) ≤ x3
  · have t := t.1 p0
    exact ⟨_, _, b_X9_copies_14  h_x0 (fun _ => ⟨rfl, rfl⟩) (fun y0 => absurd p0 y0) (fun y0 => absurd p0 y0) (fun y0 => absurd p0 y0) (fun y0 => absurd p0 y0) (fun y0 => absurd p0 y0) (fun y0 => absurd p0 y0) (fun y0 => absurd p0 y0), t⟩
  · have t := t.2 p0
    obtain ⟨b3, t⟩ := t
    obtain ⟨b4, t⟩ := t
    obtain ⟨b5, t⟩ := t
    obtain ⟨b6, t⟩ := t
    obtain ⟨b7, t⟩ := t
    obtain ⟨b8, t⟩ := t
    obtain ⟨hf, r, t, q⟩ := t
    exact ⟨hf, r, b_X9_copies_14  h_x0 (fun y0 => absurd y0 p0) (fun _ => b3) (fun _ => b4) (fun _ => b5) (fun _ => b6) (fun _ => b7) (fun _ => b8) (fun _ => t), q⟩
abbrev s_X9_turns_0 (γ : rG) (l : Launch) (x0 : Nat) (x1 : Int32) (x2 : Int32) (x3 : Int32) (x4 : Int32) (h : rHeap) (Q : rHeap → Option Value → Prop) : Prop := rW γ l m_X9_turns 0 0 0 [some (.ref x0), some (.int x1), some (.int x2), some (.int x3), some (.int x4)] [] h Q
theorem w_X9_turns_0 {γ : rG} {l : Launch} {Q : rHeap → Option Value → Prop} {sh : Nat × (Nat → Nat) × (Nat → Nat)} {I : Nat → Nat → Int32} {J : Nat → Nat → Int64} {R : Nat → Nat → Option Nat} {x0 : Nat} {x1 : Int32} {x2 : Int32} {x3 : Int32} {x4 : Int32}
    (h_x0 : At9 sh R x0)
    (t : vp_in ((((8 : Int32) * x1) + x2)) 176 ∧ ((x3 ≤ (I (x0 + 26) ((((8 : Int32) * x1) + x2)).toNatClampNeg) → (((0 : Int32) = x4 → (Q (sh, I, J, R) (some (.int (1 : Int32))))) ∧ (¬ (0 : Int32) = x4 → (Q (sh, I, J, R) (some (.int (0 : Int32))))))) ∧ (¬ x3 ≤ (I (x0 + 26) ((((8 : Int32) * x1) + x2)).toNatClampNeg) → (((1 : Int32) = x4 → (Q (sh, I, J, R) (some (.int (1 : Int32))))) ∧ (¬ (1 : Int32) = x4 → (Q (sh, I, J, R) (some (.int (0 : Int32))))))))) :
    rW γ l m_X9_turns 0 0 0 [some (.ref x0), some (.int x1), some (.int x2), some (.int x3), some (.int x4)] [] (sh, I, J, R) Q := by
  obtain ⟨b1, t⟩ := t
  by_cases p0 : x3 ≤ (I (x0 + 26) ((((8 : Int32) * x1) + x2)).toNatClampNeg)
  · have t := t.1 p0
    by_cases p1 : (0 : Int32) = x4
    · have t := t.1 p1
      exact ⟨_, _, b_X9_turns_0  h_x0 b1 (fun _ y1 => absurd p1 y1) (fun _ _ => ⟨rfl, rfl⟩) (fun y0 _ => absurd p0 y0) (fun y0 _ => absurd p0 y0), t⟩
    · have t := t.2 p1
      exact ⟨_, _, b_X9_turns_0  h_x0 b1 (fun _ _ => ⟨rfl, rfl⟩) (fun _ y1 => absurd y1 p1) (fun y0 _ => absurd p0 y0) (fun y0 _ => absurd p0 y0), t⟩
  · have t := t.2 p0
    by_cases p1 : (1 : Int32) = x4
    · have t := t.1 p1
      exact ⟨_, _, b_X9_turns_0  h_x0 b1 (fun y0 _ => absurd y0 p0) (fun y0 _ => absurd y0 p0) (fun _ y1 => absurd p1 y1) (fun _ _ => ⟨rfl, rfl⟩), t⟩
    · have t := t.2 p1
      exact ⟨_, _, b_X9_turns_0  h_x0 b1 (fun y0 _ => absurd y0 p0) (fun y0 _ => absurd y0 p0) (fun _ _ => ⟨rfl, rfl⟩) (fun _ y1 => absurd y1 p1), t⟩
abbrev s_X9_folds_0 (γ : rG) (l : Launch) (x0 : Nat) (x1 : Int32) (x2 : Int32) (x3 : Int32) (x4 : Int32) (x5 : Int32) (h : rHeap) (Q : rHeap → Option Value → Prop) : Prop := rW γ l m_X9_folds 0 0 0 [some (.ref x0), some (.int x1), some (.int x2), some (.int x3), some (.int x4), some (.int x5), none, none, none, none, none, none, none, none, none, none] [] h Q
theorem w_X9_folds_0 {γ : rG} {l : Launch} {Q : rHeap → Option Value → Prop} {sh : Nat × (Nat → Nat) × (Nat → Nat)} {I : Nat → Nat → Int32} {J : Nat → Nat → Int64} {R : Nat → Nat → Option Nat} {x0 : Nat} {x1 : Int32} {x2 : Int32} {x3 : Int32} {x4 : Int32} {x5 : Int32}
    (h_x0 : At9 sh R x0)
    (t : rW γ l m_X9_folds 0 0 8 [some (.ref x0), some (.int x1), some (.int x2), some (.int x3), some (.int x4), some (.int x5), some (.int (1000 : Int32)), some (.int (0 : Int32)), none, none, none, none, none, none, none, none] [] (sh, I, J, R) Q) :
    rW γ l m_X9_folds 0 0 0 [some (.ref x0), some (.int x1), some (.int x2), some (.int x3), some (.int x4), some (.int x5), none, none, none, none, none, none, none, none, none, none] [] (sh, I, J, R) Q := by
  obtain ⟨hf, r, t, q⟩ := t
  exact ⟨hf, r, b_X9_folds_0  h_x0 t, q⟩
abbrev s_X9_folds_8 (γ : rG) (l : Launch) (x0 : Nat) (x1 : Int32) (x2 : Int32) (x3 : Int32) (x4 : Int32) (x5 : Int32) (x6 : Int32) (x7 : Int32) (h : rHeap) (Q : rHeap → Option Value → Prop) : Prop := rW γ l m_X9_folds 0 0 8 [some (.ref x0), some (.int x1), some (.int x2), some (.int x3), some (.int x4), some (.int x5), some (.int x6), some (.int x7), none, none, none, none, none, none, none, none] [] h Q
theorem w_X9_folds_8 {γ : rG} {l : Launch} {Q : rHeap → Option Value → Prop} {sh : Nat × (Nat → Nat) × (Nat → Nat)} {I : Nat → Nat → Int32} {J : Nat → Nat → Int64} {R : Nat → Nat → Option Nat} {x0 : Nat} {x1 : Int32} {x2 : Int32} {x3 : Int32} {x4 : Int32} {x5 : Int32} {x6 : Int32} {x7 : Int32}
    (h_x0 : At9 sh R x0)
    (t : ((I x0 39) ≤ x7 → (rW γ l m_X9_folds 0 0 150 [some (.ref x0), some (.int x1), some (.int x2), some (.int x3), some (.int x4), some (.int x5), some (.int x6), some (.int (0 : Int32)), some (.int (0 : Int32)), none, none, none, none, none, none, none] [] (sh, I, J, R) Q)) ∧ (¬ (I x0 39) ≤ x7 → (vp_in ((((8 : Int32) * x1) + x7)) 176 ∧ (∃ (v5 : Int32), rMet γ l m_X9_turns [.ref x0, .int x1, .int x7, .int x3, .int x4] (sh, I, J, R) (sh, I, J, R) (some (.int v5)) ∧ ((v5 = 0 → (rW γ l m_X9_folds 0 0 72 [some (.ref x0), some (.int x1), some (.int x2), some (.int x3), some (.int x4), some (.int x5), some (.int x6), some (.int x7), none, some (.int v5), none, none, none, none, none, none] [.int (I (x0 + 26) ((((8 : Int32) * x1) + x7)).toNatClampNeg), .int (((8 : Int32) * x2) + x7), .ref (x0 + 26)] (sh, I, J, R) Q)) ∧ (¬ v5 = 0 → (rW γ l m_X9_folds 0 0 72 [some (.ref x0), some (.int x1), some (.int x2), some (.int x3), some (.int x4), some (.int x5), some (.int x6), some (.int x7), none, some (.int v5), none, none, none, none, none, none] [.int ((((2 : Int32) * x3) - (1 : Int32)) - (I (x0 + 26) ((((8 : Int32) * x1) + x7)).toNatClampNeg)), .int (((8 : Int32) * x2) + x7), .ref (x0 + 26)] (sh, I, J, R) Q))))))) :
    rW γ l m_X9_folds 0 0 8 [some (.ref x0), some (.int x1), some (.int x2), some (.int x3), some (.int x4), some (.int x5), some (.int x6), some (.int x7), none, none, none, none, none, none, none, none] [] (sh, I, J, R) Q := by
  by_cases p0 : (I x0 39) ≤ x7
  · have t := t.1 p0
    obtain ⟨hf, r, t, q⟩ := t
    exact ⟨hf, r, b_X9_folds_8 (v5 := 0) h_x0 (fun _ => t) (fun y0 => absurd p0 y0) (fun y0 => absurd p0 y0) (fun y0 _ => absurd p0 y0) (fun y0 _ => absurd p0 y0), q⟩
  · have t := t.2 p0
    obtain ⟨b3, t⟩ := t
    obtain ⟨v5, m4, t⟩ := t
    by_cases p1 : v5 = 0
    · have t := t.1 p1
      obtain ⟨hf, r, t, q⟩ := t
      exact ⟨hf, r, b_X9_folds_8  h_x0 (fun y0 => absurd y0 p0) (fun _ => b3) (fun _ => m4) (fun _ _ => t) (fun _ y1 => absurd p1 y1), q⟩
    · have t := t.2 p1
      obtain ⟨hf, r, t, q⟩ := t
      exact ⟨hf, r, b_X9_folds_8  h_x0 (fun y0 => absurd y0 p0) (fun _ => b3) (fun _ => m4) (fun _ y1 => absurd y1 p1) (fun _ _ => t), q⟩
abbrev s_X9_folds_150 (γ : rG) (l : Launch) (x0 : Nat) (x1 : Int32) (x2 : Int32) (x3 : Int32) (x4 : Int32) (x5 : Int32) (x6 : Int32) (x7 : Int32) (x8 : Int32) (h : rHeap) (Q : rHeap → Option Value → Prop) : Prop := rW γ l m_X9_folds 0 0 150 [some (.ref x0), some (.int x1), some (.int x2), some (.int x3), some (.int x4), some (.int x5), some (.int x6), some (.int x7), some (.int x8), none, none, none, none, none, none, none] [] h Q
theorem w_X9_folds_150 {γ : rG} {l : Launch} {Q : rHeap → Option Value → Prop} {sh : Nat × (Nat → Nat) × (Nat → Nat)} {I : Nat → Nat → Int32} {J : Nat → Nat → Int64} {R : Nat → Nat → Option Nat} {x0 : Nat} {x1 : Int32} {x2 : Int32} {x3 : Int32} {x4 : Int32} {x5 : Int32} {x6 : Int32} {x7 : Int32} {x8 : Int32}
    (h_x0 : At9 sh R x0)
    (t : ((I x0 39) ≤ x8 → (vp_in x2 22 ∧ ((x5 = 0 → (rW γ l m_X9_folds 0 0 412 [some (.ref x0), some (.int x1), none, some (.int x3), some (.int x4), none, none, none, some (.int (0 : Int32)), some (.int (1 : Int32)), some (.int (0 : Int32)), none, none, none, none, none] [] (sh, (up I (x0 + 25) x2.toNatClampNeg ((x7 + (1 : Int32)))), J, R) Q)) ∧ (¬ x5 = 0 → ((x5 ≤ (2 : Int32) → (rW γ l m_X9_folds 0 0 412 [some (.ref x0), some (.int x1), none, some (.int x3), some (.int x4), none, none, none, some (.int (0 : Int32)), some (.int (0 : Int32)), some (.int (0 : Int32)), none, none, none, none, none] [] (sh, (up I (x0 + 25) x2.toNatClampNeg ((x7 + (1 : Int32)))), J, R) Q)) ∧ (¬ x5 ≤ (2 : Int32) → (rW γ l m_X9_folds 0 0 412 [some (.ref x0), some (.int x1), none, some (.int x3), some (.int x4), none, none, none, some (.int (0 : Int32)), some (.int (1 : Int32)), some (.int (0 : Int32)), none, none, none, none, none] [] (sh, (up I (x0 + 25) x2.toNatClampNeg ((x7 + (1 : Int32)))), J, R) Q))))))) ∧ (¬ (I x0 39) ≤ x8 → (∃ (v9 : Int32), rMet γ l m_X9_turns [.ref x0, .int x1, .int x8, .int x3, .int x4] (sh, I, J, R) (sh, I, J, R) (some (.int v9)) ∧ (vp_in ((((8 : Int32) * x1) + x8)) 176 ∧ (∃ (v12 : Int32), rMet γ l m_X9_layersOf [.ref x0, .int x1, .int ((((2 : Int32) * x3) - (1 : Int32)) - (I (x0 + 26) ((((8 : Int32) * x1) + x8)).toNatClampNeg))] (sh, I, J, R) (sh, I, J, R) (some (.int v12)) ∧ (∃ (v14 : Int32), rMet γ l m_X9_layersOf [.ref x0, .int x1, .int (I (x0 + 26) ((((8 : Int32) * x1) + x8)).toNatClampNeg)] (sh, I, J, R) (sh, I, J, R) (some (.int v14)) ∧ ((v9 = 0 → (rW γ l m_X9_folds 0 0 221 [some (.ref x0), some (.int x1), some (.int x2), some (.int x3), some (.int x4), some (.int x5), some (.int x6), some (.int x7), some (.int x8), some (.int v9), none, some (.int v12), some (.int v14), none, none, none] [.int v14] (sh, I, J, R) Q)) ∧ (¬ v9 = 0 → (rW γ l m_X9_folds 0 0 221 [some (.ref x0), some (.int x1), some (.int x2), some (.int x3), some (.int x4), some (.int x5), some (.int x6), some (.int x7), some (.int x8), some (.int v9), none, some (.int v12), some (.int v14), none, none, none] [.int v12] (sh, I, J, R) Q))))))))) :
    rW γ l m_X9_folds 0 0 150 [some (.ref x0), some (.int x1), some (.int x2), some (.int x3), some (.int x4), some (.int x5), some (.int x6), some (.int x7), some (.int x8), none, none, none, none, none, none, none] [] (sh, I, J, R) Q := by
  by_cases p0 : (I x0 39) ≤ x8
  · have t := t.1 p0
    obtain ⟨b2, t⟩ := t
    by_cases p1 : x5 = 0
    · have t := t.1 p1
      obtain ⟨hf, r, t, q⟩ := t
      exact ⟨hf, r, b_X9_folds_150 (v9 := 0) (v12 := 0) (v14 := 0) h_x0 (fun _ => b2) (fun _ _ => t) (fun _ y1 _ => absurd p1 y1) (fun _ y1 _ => absurd p1 y1) (fun y0 => absurd p0 y0) (fun y0 => absurd p0 y0) (fun y0 => absurd p0 y0) (fun y0 => absurd p0 y0) (fun y0 _ => absurd p0 y0) (fun y0 _ => absurd p0 y0), q⟩
    · have t := t.2 p1
      by_cases p2 : x5 ≤ (2 : Int32)
      · have t := t.1 p2
        obtain ⟨hf, r, t, q⟩ := t
        exact ⟨hf, r, b_X9_folds_150 (v9 := 0) (v12 := 0) (v14 := 0) h_x0 (fun _ => b2) (fun _ y1 => absurd y1 p1) (fun _ _ _ => t) (fun _ _ y2 => absurd p2 y2) (fun y0 => absurd p0 y0) (fun y0 => absurd p0 y0) (fun y0 => absurd p0 y0) (fun y0 => absurd p0 y0) (fun y0 _ => absurd p0 y0) (fun y0 _ => absurd p0 y0), q⟩
      · have t := t.2 p2
        obtain ⟨hf, r, t, q⟩ := t
        exact ⟨hf, r, b_X9_folds_150 (v9 := 0) (v12 := 0) (v14 := 0) h_x0 (fun _ => b2) (fun _ y1 => absurd y1 p1) (fun _ _ y2 => absurd y2 p2) (fun _ _ _ => t) (fun y0 => absurd p0 y0) (fun y0 => absurd p0 y0) (fun y0 => absurd p0 y0) (fun y0 => absurd p0 y0) (fun y0 _ => absurd p0 y0) (fun y0 _ => absurd p0 y0), q⟩
  · have t := t.2 p0
    obtain ⟨v9, m8, t⟩ := t
    obtain ⟨b10, t⟩ := t
    obtain ⟨v12, m11, t⟩ := t
    obtain ⟨v14, m13, t⟩ := t
    by_cases p1 : v9 = 0
    · have t := t.1 p1
      obtain ⟨hf, r, t, q⟩ := t
      exact ⟨hf, r, b_X9_folds_150  h_x0 (fun y0 => absurd y0 p0) (fun y0 _ => absurd y0 p0) (fun y0 _ _ => absurd y0 p0) (fun y0 _ _ => absurd y0 p0) (fun _ => m8) (fun _ => b10) (fun _ => m11) (fun _ => m13) (fun _ _ => t) (fun _ y1 => absurd p1 y1), q⟩
    · have t := t.2 p1
      obtain ⟨hf, r, t, q⟩ := t
      exact ⟨hf, r, b_X9_folds_150  h_x0 (fun y0 => absurd y0 p0) (fun y0 _ => absurd y0 p0) (fun y0 _ _ => absurd y0 p0) (fun y0 _ _ => absurd y0 p0) (fun _ => m8) (fun _ => b10) (fun _ => m11) (fun _ => m13) (fun _ y1 => absurd y1 p1) (fun _ _ => t), q⟩
abbrev s_X9_folds_72 (γ : rG) (l : Launch) (x0 : Nat) (x1 : Int32) (x2 : Int32) (x3 : Int32) (x4 : Int32) (x5 : Int32) (x6 : Int32) (x7 : Int32) (x9 : Int32) (s0 : Int32) (s1 : Int32) (s2 : Nat) (h : rHeap) (Q : rHeap → Option Value → Prop) : Prop := rW γ l m_X9_folds 0 0 72 [some (.ref x0), some (.int x1), some (.int x2), some (.int x3), some (.int x4), some (.int x5), some (.int x6), some (.int x7), none, some (.int x9), none, none, none, none, none, none] [.int s0, .int s1, .ref s2] h Q
theorem w_X9_folds_72 {γ : rG} {l : Launch} {Q : rHeap → Option Value → Prop} {sh : Nat × (Nat → Nat) × (Nat → Nat)} {I : Nat → Nat → Int32} {J : Nat → Nat → Int64} {R : Nat → Nat → Option Nat} {x0 : Nat} {x1 : Int32} {x2 : Int32} {x3 : Int32} {x4 : Int32} {x5 : Int32} {x6 : Int32} {x7 : Int32} {x9 : Int32} {s0 : Int32} {s1 : Int32} {s2 : Nat} {n_s2 : Nat}
    (h_x0 : At9 sh R x0)
    (h_s2 : rK sh s2 11)
    (g_s2 : sh.2.2 s2 = n_s2)
    (t : vp_in s1 n_s2 ∧ (vp_in ((((8 : Int32) * x1) + x7)) 176 ∧ ((((up I s2 s1.toNatClampNeg s0) (x0 + 28) ((((8 : Int32) * x1) + x7)).toNatClampNeg) = x9 → (rW γ l m_X9_folds 0 0 106 [some (.ref x0), some (.int x1), some (.int x2), some (.int x3), some (.int x4), some (.int x5), some (.int x6), some (.int x7), none, none, none, none, none, none, none, none] [.int (0 : Int32), .int (((8 : Int32) * x2) + x7), .ref (x0 + 28)] (sh, (up I s2 s1.toNatClampNeg s0), J, R) Q)) ∧ (¬ ((up I s2 s1.toNatClampNeg s0) (x0 + 28) ((((8 : Int32) * x1) + x7)).toNatClampNeg) = x9 → (rW γ l m_X9_folds 0 0 106 [some (.ref x0), some (.int x1), some (.int x2), some (.int x3), some (.int x4), some (.int x5), some (.int x6), some (.int x7), none, none, none, none, none, none, none, none] [.int (1 : Int32), .int (((8 : Int32) * x2) + x7), .ref (x0 + 28)] (sh, (up I s2 s1.toNatClampNeg s0), J, R) Q))))) :
    rW γ l m_X9_folds 0 0 72 [some (.ref x0), some (.int x1), some (.int x2), some (.int x3), some (.int x4), some (.int x5), some (.int x6), some (.int x7), none, some (.int x9), none, none, none, none, none, none] [.int s0, .int s1, .ref s2] (sh, I, J, R) Q := by
  obtain ⟨b1, t⟩ := t
  obtain ⟨b2, t⟩ := t
  by_cases p0 : ((up I s2 s1.toNatClampNeg s0) (x0 + 28) ((((8 : Int32) * x1) + x7)).toNatClampNeg) = x9
  · have t := t.1 p0
    obtain ⟨hf, r, t, q⟩ := t
    exact ⟨hf, r, b_X9_folds_72  h_x0 h_s2 g_s2 b1 b2 (fun _ => t) (fun y0 => absurd p0 y0), q⟩
  · have t := t.2 p0
    obtain ⟨hf, r, t, q⟩ := t
    exact ⟨hf, r, b_X9_folds_72  h_x0 h_s2 g_s2 b1 b2 (fun y0 => absurd y0 p0) (fun _ => t), q⟩
abbrev s_X9_folds_412 (γ : rG) (l : Launch) (x0 : Nat) (x1 : Int32) (x3 : Int32) (x4 : Int32) (x8 : Int32) (x9 : Int32) (x10 : Int32) (h : rHeap) (Q : rHeap → Option Value → Prop) : Prop := rW γ l m_X9_folds 0 0 412 [some (.ref x0), some (.int x1), none, some (.int x3), some (.int x4), none, none, none, some (.int x8), some (.int x9), some (.int x10), none, none, none, none, none] [] h Q
theorem w_X9_folds_412 {γ : rG} {l : Launch} {Q : rHeap → Option Value → Prop} {sh : Nat × (Nat → Nat) × (Nat → Nat)} {I : Nat → Nat → Int32} {J : Nat → Nat → Int64} {R : Nat → Nat → Option Nat} {x0 : Nat} {x1 : Int32} {x3 : Int32} {x4 : Int32} {x8 : Int32} {x9 : Int32} {x10 : Int32}
    (h_x0 : At9 sh R x0)
    (t : ((I x0 39) ≤ (x10 + (1 : Int32)) → (Q (sh, I, J, R) (some (.int x8)))) ∧ (¬ (I x0 39) ≤ (x10 + (1 : Int32)) → (vp_in ((((8 : Int32) * x1) + x10)) 176 ∧ (vp_in (((((8 : Int32) * x1) + x10) + (1 : Int32))) 176 ∧ (((I (x0 + 26) ((((8 : Int32) * x1) + x10)).toNatClampNeg) = (I (x0 + 26) (((((8 : Int32) * x1) + x10) + (1 : Int32))).toNatClampNeg) → (rW γ l m_X9_folds 0 0 412 [some (.ref x0), some (.int x1), none, some (.int x3), some (.int x4), none, none, none, some (.int x8), some (.int x9), some (.int (x10 + (1 : Int32))), none, none, none, none, none] [] (sh, I, J, R) Q)) ∧ (¬ (I (x0 + 26) ((((8 : Int32) * x1) + x10)).toNatClampNeg) = (I (x0 + 26) (((((8 : Int32) * x1) + x10) + (1 : Int32))).toNatClampNeg) → (∃ (v8 : Int32), rMet γ l m_X9_turns [.ref x0, .int x1, .int x10, .int x3, .int x4] (sh, I, J, R) (sh, I, J, R) (some (.int v8)) ∧ (∃ (v10 : Int32), rMet γ l m_X9_turns [.ref x0, .int x1, .int (x10 + (1 : Int32)), .int x3, .int x4] (sh, I, J, R) (sh, I, J, R) (some (.int v10)) ∧ ((v8 = v10 → (rW γ l m_X9_folds 0 0 412 [some (.ref x0), some (.int x1), none, some (.int x3), some (.int x4), none, none, none, some (.int x8), some (.int x9), some (.int (x10 + (1 : Int32))), none, none, none, none, none] [] (sh, I, J, R) Q)) ∧ (¬ v8 = v10 → (vp_in ((((8 : Int32) * x1) + x10)) 176 ∧ (((I (x0 + 28) ((((8 : Int32) * x1) + x10)).toNatClampNeg) = x9 → (rW γ l m_X9_folds 0 0 412 [some (.ref x0), some (.int x1), none, some (.int x3), some (.int x4), none, none, none, some (.int (x8 ||| ((1 : Int32) <<< (((2 : Int32) * x10) &&& 31)))), some (.int x9), some (.int (x10 + (1 : Int32))), none, none, none, none, none] [] (sh, I, J, R) Q)) ∧ (¬ (I (x0 + 28) ((((8 : Int32) * x1) + x10)).toNatClampNeg) = x9 → (rW γ l m_X9_folds 0 0 412 [some (.ref x0), some (.int x1), none, some (.int x3), some (.int x4), none, none, none, some (.int (x8 ||| ((2 : Int32) <<< (((2 : Int32) * x10) &&& 31)))), some (.int x9), some (.int (x10 + (1 : Int32))), none, none, none, none, none] [] (sh, I, J, R) Q)))))))))))))) :
    rW γ l m_X9_folds 0 0 412 [some (.ref x0), some (.int x1), none, some (.int x3), some (.int x4), none, none, none, some (.int x8), some (.int x9), some (.int x10), none, none, none, none, none] [] (sh, I, J, R) Q := by
  by_cases p0 : (I x0 39) ≤ (x10 + (1 : Int32))
  · have t := t.1 p0
    exact ⟨_, _, b_X9_folds_412 (v8 := 0) (v10 := 0) h_x0 (fun _ => ⟨rfl, rfl⟩) (fun y0 => absurd p0 y0) (fun y0 => absurd p0 y0) (fun y0 _ => absurd p0 y0) (fun y0 _ => absurd p0 y0) (fun y0 _ => absurd p0 y0) (fun y0 _ _ => absurd p0 y0) (fun y0 _ _ _ => absurd p0 y0) (fun y0 _ _ _ => absurd p0 y0) (fun y0 _ _ => absurd p0 y0), t⟩
  · have t := t.2 p0
    obtain ⟨b3, t⟩ := t
    obtain ⟨b4, t⟩ := t
    by_cases p1 : (I (x0 + 26) ((((8 : Int32) * x1) + x10)).toNatClampNeg) = (I (x0 + 26) (((((8 : Int32) * x1) + x10) + (1 : Int32))).toNatClampNeg)
    · have t := t.1 p1
      obtain ⟨hf, r, t, q⟩ := t
      exact ⟨hf, r, b_X9_folds_412 (v8 := 0) (v10 := 0) h_x0 (fun y0 => absurd y0 p0) (fun _ => b3) (fun _ => b4) (fun _ _ => t) (fun _ y1 => absurd p1 y1) (fun _ y1 => absurd p1 y1) (fun _ y1 _ => absurd p1 y1) (fun _ y1 _ _ => absurd p1 y1) (fun _ y1 _ _ => absurd p1 y1) (fun _ y1 _ => absurd p1 y1), q⟩
    · have t := t.2 p1
      obtain ⟨v8, m7, t⟩ := t
      obtain ⟨v10, m9, t⟩ := t
      by_cases p2 : v8 = v10
      · have t := t.1 p2
        obtain ⟨hf, r, t, q⟩ := t
        exact ⟨hf, r, b_X9_folds_412  h_x0 (fun y0 => absurd y0 p0) (fun _ => b3) (fun _ => b4) (fun _ y1 => absurd y1 p1) (fun _ _ => m7) (fun _ _ => m9) (fun _ _ y2 => absurd p2 y2) (fun _ _ y2 _ => absurd p2 y2) (fun _ _ y2 _ => absurd p2 y2) (fun _ _ _ => t), q⟩
      · have t := t.2 p2
        obtain ⟨b12, t⟩ := t
        by_cases p3 : (I (x0 + 28) ((((8 : Int32) * x1) + x10)).toNatClampNeg) = x9
        · have t := t.1 p3
          obtain ⟨hf, r, t, q⟩ := t
          exact ⟨hf, r, b_X9_folds_412  h_x0 (fun y0 => absurd y0 p0) (fun _ => b3) (fun _ => b4) (fun _ y1 => absurd y1 p1) (fun _ _ => m7) (fun _ _ => m9) (fun _ _ _ => b12) (fun _ _ _ y3 => absurd p3 y3) (fun _ _ _ _ => t) (fun _ _ y2 => absurd y2 p2), q⟩
        · have t := t.2 p3
          obtain ⟨hf, r, t, q⟩ := t
          exact ⟨hf, r, b_X9_folds_412  h_x0 (fun y0 => absurd y0 p0) (fun _ => b3) (fun _ => b4) (fun _ y1 => absurd y1 p1) (fun _ _ => m7) (fun _ _ => m9) (fun _ _ _ => b12) (fun _ _ _ _ => t) (fun _ _ _ y3 => absurd y3 p3) (fun _ _ y2 => absurd y2 p2), q⟩
