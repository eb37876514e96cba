abbrev s_X1_prepare_0 (γ : rG) (l : Launch) (x0 : Nat) (x1 : Int32) (h : rHeap) (Q : rHeap → Option Value → Prop) : Prop := rW γ l m_X1_prepare 0 0 0 [some (.ref x0), some (.int x1), none, none, none, none] [] h Q
theorem w_X1_prepare_0 {γ : rG} {l : Launch} {Q : rHeap → Option Value → Prop} {sh : Nat × (Nat → Nat) × (Nat → Nat)} {I : Nat → Nat → Int32} {J : Nat → Nat → Int64} {R : Nat → Nat → Option Nat} {x0 : Nat} {x1 : Int32}
    (h_x0 : At1 sh R x0)
    (t : ((I x0 0) = x1 → (Q (sh, I, J, R) (none))) ∧ (¬ (I x0 0) = x1 → (∃ (I2 : Nat → Nat → Int32), rMet γ l m_X2_layFlat [.ref (x0 + 12), .int x1] (sh, (up (up I x0 0 x1) x0 1 (0 : Int32)), J, R) (sh, I2, J, R) none ∧ (∃ (I4 : Nat → Nat → Int32), rMet γ l m_X1_startLevel [.ref x0] (sh, I2, J, R) (sh, I4, J, R) none ∧ (∃ (v7 : Int64), rMet γ l m_X2_packed [.ref (x0 + 12)] (sh, I4, J, R) (sh, I4, J, R) (some (.long v7)) ∧ (∃ (I8 : Nat → Nat → Int32) (J9 : Nat → Nat → Int64), rMet γ l m_X1_add [.ref x0, .long v7, .int (1 : Int32), .int (0 : Int32)] (sh, I4, J, R) (sh, I8, J9, R) none ∧ (vp_in (0 : Int32) 4 ∧ (rW γ l m_X1_prepare 0 0 58 [some (.ref x0), none, some (.int (0 : Int32)), some (.int (1 : Int32)), none, none] [] (sh, (up I8 (x0 + 4) (0 : Int32).toNatClampNeg (I8 x0 1)), J9, R) Q)))))))) :
    rW γ l m_X1_prepare 0 0 0 [some (.ref x0), some (.int x1), none, none, none, none] [] (sh, I, J, R) Q := by
  by_cases p0 : (I x0 0) = x1
  · have t := t.1 p0
    exact ⟨_, _, b_X1_prepare_0 (I2 := I) (I4 := I) (v7 := 0) (I8 := I) (J9 := J) h_x0 (fun y0 => absurd p0 y0) (fun y0 => absurd p0 y0) (fun y0 => absurd p0 y0) (fun y0 => absurd p0 y0) (fun y0 => absurd p0 y0) (fun y0 => absurd p0 y0) (fun _ => ⟨rfl, rfl⟩), t⟩
  · have t := t.2 p0
    obtain ⟨I2, m3, t⟩ := t
    obtain ⟨I4, m5, t⟩ := t
    obtain ⟨v7, m6, t⟩ := t
    obtain ⟨I8, J9, m10, t⟩ := t
    obtain ⟨b11, t⟩ := t
    obtain ⟨hf, r, t, q⟩ := t
    exact ⟨hf, r, b_X1_prepare_0  h_x0 (fun _ => m3) (fun _ => m5) (fun _ => m6) (fun _ => m10) (fun _ => b11) (fun _ => t) (fun y0 => absurd y0 p0), q⟩
abbrev s_X1_prepare_58 (γ : rG) (l : Launch) (x0 : Nat) (x2 : Int32) (x3 : Int32) (h : rHeap) (Q : rHeap → Option Value → Prop) : Prop := rW γ l m_X1_prepare 0 0 58 [some (.ref x0), none, some (.int x2), some (.int x3), none, none] [] h Q
theorem w_X1_prepare_58 {γ : rG} {l : Launch} {Q : rHeap → Option Value → Prop} {sh : Nat × (Nat → Nat) × (Nat → Nat)} {I : Nat → Nat → Int32} {J : Nat → Nat → Int64} {R : Nat → Nat → Option Nat} {x0 : Nat} {x2 : Int32} {x3 : Int32}
    (h_x0 : At1 sh R x0)
    (t : ((3 : Int32) < x3 → (Q (sh, I, J, R) (none))) ∧ (¬ (3 : Int32) < x3 → (∃ (I3 : Nat → Nat → Int32), rMet γ l m_X1_startLevel [.ref x0] (sh, I, J, R) (sh, I3, J, R) none ∧ (rW γ l m_X1_prepare 0 0 76 [some (.ref x0), none, none, some (.int x3), some (.int (I3 x0 1)), some (.int x2)] [] (sh, I3, J, R) Q)))) :
    rW γ l m_X1_prepare 0 0 58 [some (.ref x0), none, some (.int x2), some (.int x3), none, none] [] (sh, I, J, R) Q := by
  by_cases p0 : (3 : Int32) < x3
  · have t := t.1 p0
    exact ⟨_, _, b_X1_prepare_58 (I3 := I) h_x0 (fun _ => ⟨rfl, rfl⟩) (fun y0 => absurd p0 y0) (fun y0 => absurd p0 y0), t⟩
  · have t := t.2 p0
    obtain ⟨I3, m4, t⟩ := t
    obtain ⟨hf, r, t, q⟩ := t
    exact ⟨hf, r, b_X1_prepare_58  h_x0 (fun y0 => absurd y0 p0) (fun _ => m4) (fun _ => t), q⟩
abbrev s_X1_prepare_76 (γ : rG) (l : Launch) (x0 : Nat) (x3 : Int32) (x4 : Int32) (x5 : Int32) (h : rHeap) (Q : rHeap → Option Value → Prop) : Prop := rW γ l m_X1_prepare 0 0 76 [some (.ref x0), none, none, some (.int x3), some (.int x4), some (.int x5)] [] h Q
theorem w_X1_prepare_76 {γ : rG} {l : Launch} {Q : rHeap → Option Value → Prop} {sh : Nat × (Nat → Nat) × (Nat → Nat)} {I : Nat → Nat → Int32} {J : Nat → Nat → Int64} {R : Nat → Nat → Option Nat} {x0 : Nat} {x3 : Int32} {x4 : Int32} {x5 : Int32}
    (h_x0 : At1 sh R x0)
    (t : (x4 ≤ x5 → (vp_in x3 4 ∧ (rW γ l m_X1_prepare 0 0 58 [some (.ref x0), none, some (.int x4), some (.int (x3 + (1 : Int32))), none, none] [] (sh, (up I (x0 + 4) x3.toNatClampNeg (I x0 1)), J, R) Q))) ∧ (¬ x4 ≤ x5 → (∃ (I4 : Nat → Nat → Int32) (J5 : Nat → Nat → Int64), rMet γ l m_X1_turnOn [.ref x0, .int x5] (sh, I, J, R) (sh, I4, J5, R) none ∧ (rW γ l m_X1_prepare 0 0 76 [some (.ref x0), none, none, some (.int x3), some (.int x4), some (.int (x5 + (1 : Int32)))] [] (sh, I4, J5, R) Q)))) :
    rW γ l m_X1_prepare 0 0 76 [some (.ref x0), none, none, some (.int x3), some (.int x4), some (.int x5)] [] (sh, I, J, R) Q := by
  by_cases p0 : x4 ≤ x5
  · have t := t.1 p0
    obtain ⟨b2, t⟩ := t
    obtain ⟨hf, r, t, q⟩ := t
    exact ⟨hf, r, b_X1_prepare_76 (I4 := I) (J5 := J) h_x0 (fun _ => b2) (fun _ => t) (fun y0 => absurd p0 y0) (fun y0 => absurd p0 y0), q⟩
  · have t := t.2 p0
    obtain ⟨I4, J5, m6, t⟩ := t
    obtain ⟨hf, r, t, q⟩ := t
    exact ⟨hf, r, b_X1_prepare_76  h_x0 (fun y0 => absurd y0 p0) (fun y0 => absurd y0 p0) (fun _ => m6) (fun _ => t), q⟩
abbrev s_X1_creasesOf_0 (γ : rG) (l : Launch) (x0 : Nat) (x1 : Int32) (h : rHeap) (Q : rHeap → Option Value → Prop) : Prop := rW γ l m_X1_creasesOf 0 0 0 [some (.ref x0), some (.int x1)] [] h Q
theorem w_X1_creasesOf_0 {γ : rG} {l : Launch} {Q : rHeap → Option Value → Prop} {sh : Nat × (Nat → Nat) × (Nat → Nat)} {I : Nat → Nat → Int32} {J : Nat → Nat → Int64} {R : Nat → Nat → Option Nat} {x0 : Nat} {x1 : Int32}
    (h_x0 : At1 sh R x0)
    (t : vp_in x1 1300 ∧ (Q (sh, I, J, R) (some (.int ((((J (x0 + 1) x1.toNatClampNeg) >>> (((49 : Int32)).toInt64 &&& 63))).toInt32))))) :
    rW γ l m_X1_creasesOf 0 0 0 [some (.ref x0), some (.int x1)] [] (sh, I, J, R) Q := by
  obtain ⟨b1, t⟩ := t
  exact ⟨_, _, b_X1_creasesOf_0  h_x0 b1 ⟨rfl, rfl⟩, t⟩
abbrev s_X1_turnsOf_0 (γ : rG) (l : Launch) (x0 : Nat) (x1 : Int32) (h : rHeap) (Q : rHeap → Option Value → Prop) : Prop := rW γ l m_X1_turnsOf 0 0 0 [some (.ref x0), some (.int x1), none] [] h Q
theorem w_X1_turnsOf_0 {γ : rG} {l : Launch} {Q : rHeap → Option Value → Prop} {sh : Nat × (Nat → Nat) × (Nat → Nat)} {I : Nat → Nat → Int32} {J : Nat → Nat → Int64} {R : Nat → Nat → Option Nat} {x0 : Nat} {x1 : Int32}
    (h_x0 : At1 sh R x0)
    (t : rW γ l m_X1_turnsOf 0 0 2 [some (.ref x0), some (.int x1), some (.int (0 : Int32))] [] (sh, I, J, R) Q) :
    rW γ l m_X1_turnsOf 0 0 0 [some (.ref x0), some (.int x1), none] [] (sh, I, J, R) Q := by
  obtain ⟨hf, r, t, q⟩ := t
  exact ⟨hf, r, b_X1_turnsOf_0  h_x0 t, q⟩
abbrev s_X1_turnsOf_2 (γ : rG) (l : Launch) (x0 : Nat) (x1 : Int32) (x2 : Int32) (h : rHeap) (Q : rHeap → Option Value → Prop) : Prop := rW γ l m_X1_turnsOf 0 0 2 [some (.ref x0), some (.int x1), some (.int x2)] [] h Q
theorem w_X1_turnsOf_2 {γ : rG} {l : Launch} {Q : rHeap → Option Value → Prop} {sh : Nat × (Nat → Nat) × (Nat → Nat)} {I : Nat → Nat → Int32} {J : Nat → Nat → Int64} {R : Nat → Nat → Option Nat} {x0 : Nat} {x1 : Int32} {x2 : Int32}
    (h_x0 : At1 sh R x0)
    (t : ((3 : Int32) ≤ x2 → (Q (sh, I, J, R) (some (.int x2)))) ∧ (¬ (3 : Int32) ≤ x2 → (vp_in x2 4 ∧ ((x1 < (I (x0 + 4) x2.toNatClampNeg) → (Q (sh, I, J, R) (some (.int x2)))) ∧ (¬ x1 < (I (x0 + 4) x2.toNatClampNeg) → (rW γ l m_X1_turnsOf 0 0 2 [some (.ref x0), some (.int x1), some (.int (x2 + (1 : Int32)))] [] (sh, I, J, R) Q)))))) :
    rW γ l m_X1_turnsOf 0 0 2 [some (.ref x0), some (.int x1), some (.int x2)] [] (sh, I, J, R) Q := by
  by_cases p0 : (3 : Int32) ≤ x2
  · have t := t.1 p0
    exact ⟨_, _, b_X1_turnsOf_2  h_x0 (fun _ => ⟨rfl, rfl⟩) (fun y0 => absurd p0 y0) (fun y0 _ => absurd p0 y0) (fun y0 _ => absurd p0 y0), t⟩
  · have t := t.2 p0
    obtain ⟨b3, t⟩ := t
    by_cases p1 : x1 < (I (x0 + 4) x2.toNatClampNeg)
    · have t := t.1 p1
      exact ⟨_, _, b_X1_turnsOf_2  h_x0 (fun y0 => absurd y0 p0) (fun _ => b3) (fun _ _ => ⟨rfl, rfl⟩) (fun _ y1 => absurd p1 y1), t⟩
    · have t := t.2 p1
      obtain ⟨hf, r, t, q⟩ := t
      exact ⟨hf, r, b_X1_turnsOf_2  h_x0 (fun y0 => absurd y0 p0) (fun _ => b3) (fun _ y1 => absurd y1 p1) (fun _ _ => t), q⟩
abbrev s_X1_actOf_0 (γ : rG) (l : Launch) (x0 : Nat) (x1 : Int32) (x2 : Int32) (h : rHeap) (Q : rHeap → Option Value → Prop) : Prop := rW γ l m_X1_actOf 0 0 0 [some (.ref x0), some (.int x1), some (.int x2), none] [] h Q
theorem w_X1_actOf_0 {γ : rG} {l : Launch} {Q : rHeap → Option Value → Prop} {sh : Nat × (Nat → Nat) × (Nat → Nat)} {I : Nat → Nat → Int32} {J : Nat → Nat → Int64} {R : Nat → Nat → Option Nat} {x0 : Nat} {x1 : Int32} {x2 : Int32}
    (h_x0 : At1 sh R x0)
    (t : ∃ (v2 : Int32), rMet γ l m_X1_turnsOf [.ref x0, .int x1] (sh, I, J, R) (sh, I, J, R) (some (.int v2)) ∧ (vp_in x1 1300 ∧ (Q (sh, I, J, R) (some (.int ((((I (x0 + 3) x1.toNatClampNeg) >>> (((10 : Int32) * ((v2 - (1 : Int32)) - x2)) &&& 31)) &&& (1023 : Int32)))))))) :
    rW γ l m_X1_actOf 0 0 0 [some (.ref x0), some (.int x1), some (.int x2), none] [] (sh, I, J, R) Q := by
  obtain ⟨v2, m1, t⟩ := t
  obtain ⟨b3, t⟩ := t
  exact ⟨_, _, b_X1_actOf_0  h_x0 m1 b3 ⟨rfl, rfl⟩, t⟩
abbrev s_X1_unpack_0 (γ : rG) (l : Launch) (x0 : Nat) (x1 : Nat) (x2 : Int32) (h : rHeap) (Q : rHeap → Option Value → Prop) : Prop := rW γ l m_X1_unpack 0 0 0 [some (.ref x0), some (.ref x1), some (.int x2)] [] h Q
theorem w_X1_unpack_0 {γ : rG} {l : Launch} {Q : rHeap → Option Value → Prop} {sh : Nat × (Nat → Nat) × (Nat → Nat)} {I : Nat → Nat → Int32} {J : Nat → Nat → Int64} {R : Nat → Nat → Option Nat} {x0 : Nat} {x1 : Nat} {x2 : Int32}
    (h_x0 : At1 sh R x0)
    (h_x1 : At2 sh R x1)
    (t : vp_in x2 1300 ∧ (∃ (I2 : Nat → Nat → Int32), rMet γ l m_X2_unpack [.ref x1, .long ((J (x0 + 1) x2.toNatClampNeg) &&& (562949953421311 : Int64)), .int (I x0 0)] (sh, I, J, R) (sh, I2, J, R) none ∧ (Q (sh, I2, J, R) (none)))) :
    rW γ l m_X1_unpack 0 0 0 [some (.ref x0), some (.ref x1), some (.int x2)] [] (sh, I, J, R) Q := by
  obtain ⟨b1, t⟩ := t
  obtain ⟨I2, m3, t⟩ := t
  exact ⟨_, _, b_X1_unpack_0  h_x0 h_x1 b1 m3 ⟨rfl, rfl⟩, t⟩
abbrev s_X1_turnOn_0 (γ : rG) (l : Launch) (x0 : Nat) (x1 : Int32) (h : rHeap) (Q : rHeap → Option Value → Prop) : Prop := rW γ l m_X1_turnOn 0 0 0 [some (.ref x0), some (.int x1), none, none, none, none, none, none, none, none] [] h Q
theorem w_X1_turnOn_0 {γ : rG} {l : Launch} {Q : rHeap → Option Value → Prop} {sh : Nat × (Nat → Nat) × (Nat → Nat)} {I : Nat → Nat → Int32} {J : Nat → Nat → Int64} {R : Nat → Nat → Option Nat} {x0 : Nat} {x1 : Int32}
    (h_x0 : At1 sh R x0)
    (t : ∃ (I1 : Nat → Nat → Int32), rMet γ l m_X1_unpack [.ref x0, .ref (x0 + 6), .int x1] (sh, I, J, R) (sh, I1, J, R) none ∧ (∃ (v4 : Int32), rMet γ l m_X2_mostLayers [.ref (x0 + 6)] (sh, I1, J, R) (sh, I1, J, R) (some (.int v4)) ∧ (rW γ l m_X1_turnOn 0 0 19 [some (.ref x0), some (.int x1), some (.int v4), some (.int (1 : Int32)), none, none, none, none, none, none] [] (sh, I1, J, R) Q))) :
    rW γ l m_X1_turnOn 0 0 0 [some (.ref x0), some (.int x1), none, none, none, none, none, none, none, none] [] (sh, I, J, R) Q := by
  obtain ⟨I1, m2, t⟩ := t
  obtain ⟨v4, m3, t⟩ := t
  obtain ⟨hf, r, t, q⟩ := t
  exact ⟨hf, r, b_X1_turnOn_0  h_x0 m2 m3 t, q⟩
abbrev s_X1_turnOn_19 (γ : rG) (l : Launch) (x0 : Nat) (x1 : Int32) (x2 : Int32) (x3 : Int32) (h : rHeap) (Q : rHeap → Option Value → Prop) : Prop := rW γ l m_X1_turnOn 0 0 19 [some (.ref x0), some (.int x1), some (.int x2), some (.int x3), none, none, none, none, none, none] [] h Q
theorem w_X1_turnOn_19 {γ : rG} {l : Launch} {Q : rHeap → Option Value → Prop} {sh : Nat × (Nat → Nat) × (Nat → Nat)} {I : Nat → Nat → Int32} {J : Nat → Nat → Int64} {R : Nat → Nat → Option Nat} {x0 : Nat} {x1 : Int32} {x2 : Int32} {x3 : Int32}
    (h_x0 : At1 sh R x0)
    (t : ((I (x0 + 6) 1) ≤ x3 → (Q (sh, I, J, R) (none))) ∧ (¬ (I (x0 + 6) 1) ≤ x3 → (∃ (v4 : Int32), rMet γ l m_X1_creasesOf [.ref x0, .int x1] (sh, I, J, R) (sh, I, J, R) (some (.int v4)) ∧ (∃ (v6 : Int32), rMet γ l m_X2_creasesAt [.ref (x0 + 6), .int x3, .int (1 : Int32)] (sh, I, J, R) (sh, I, J, R) (some (.int v6)) ∧ (∃ (v8 : Int32), rMet γ l m_X1_creasesOf [.ref x0, .int x1] (sh, I, J, R) (sh, I, J, R) (some (.int v8)) ∧ (∃ (v10 : Int32), rMet γ l m_X2_creasesAt [.ref (x0 + 6), .int x3, .int (0 : Int32)] (sh, I, J, R) (sh, I, J, R) (some (.int v10)) ∧ (rW γ l m_X1_turnOn 0 0 67 [some (.ref x0), some (.int x1), some (.int x2), some (.int x3), some (.int (v4 ||| v6)), some (.int (v8 ||| v10)), some (.int (0 : Int32)), none, none, none] [] (sh, I, J, R) Q))))))) :
    rW γ l m_X1_turnOn 0 0 19 [some (.ref x0), some (.int x1), some (.int x2), some (.int x3), none, none, none, none, none, none] [] (sh, I, J, R) Q := by
  by_cases p0 : (I (x0 + 6) 1) ≤ x3
  · have t := t.1 p0
    exact ⟨_, _, b_X1_turnOn_19 (v4 := 0) (v6 := 0) (v8 := 0) (v10 := 0) h_x0 (fun _ => ⟨rfl, rfl⟩) (fun y0 => absurd p0 y0) (fun y0 => absurd p0 y0) (fun y0 => absurd p0 y0) (fun y0 => absurd p0 y0) (fun y0 => absurd p0 y0), t⟩
  · have t := t.2 p0
    obtain ⟨v4, m3, t⟩ := t
    obtain ⟨v6, m5, t⟩ := t
    obtain ⟨v8, m7, t⟩ := t
    obtain ⟨v10, m9, t⟩ := t
    obtain ⟨hf, r, t, q⟩ := t
    exact ⟨hf, r, b_X1_turnOn_19  h_x0 (fun y0 => absurd y0 p0) (fun _ => m3) (fun _ => m5) (fun _ => m7) (fun _ => m9) (fun _ => t), q⟩
abbrev s_X1_turnOn_67 (γ : rG) (l : Launch) (x0 : Nat) (x1 : Int32) (x2 : Int32) (x3 : Int32) (x4 : Int32) (x5 : Int32) (x6 : Int32) (h : rHeap) (Q : rHeap → Option Value → Prop) : Prop := rW γ l m_X1_turnOn 0 0 67 [some (.ref x0), some (.int x1), some (.int x2), some (.int x3), some (.int x4), some (.int x5), some (.int x6), none, none, none] [] h Q
theorem w_X1_turnOn_67 {γ : rG} {l : Launch} {Q : rHeap → Option Value → Prop} {sh : Nat × (Nat → Nat) × (Nat → Nat)} {I : Nat → Nat → Int32} {J : Nat → Nat → Int64} {R : Nat → Nat → Option Nat} {x0 : Nat} {x1 : Int32} {x2 : Int32} {x3 : Int32} {x4 : Int32} {x5 : Int32} {x6 : Int32}
    (h_x0 : At1 sh R x0)
    (t : ((2 : Int32) ≤ x6 → (rW γ l m_X1_turnOn 0 0 19 [some (.ref x0), some (.int x1), some (.int x2), some (.int (x3 + (1 : Int32))), none, none, none, none, none, none] [] (sh, I, J, R) Q)) ∧ (¬ (2 : Int32) ≤ x6 → ((x6 = 0 → (rW γ l m_X1_turnOn 0 0 95 [some (.ref x0), some (.int x1), some (.int x2), some (.int x3), some (.int x4), some (.int x5), some (.int x6), some (.int (((100 : Int32) * x3) + ((10 : Int32) * x6))), none, none] [.int (1 : Int32)] (sh, I, J, R) Q)) ∧ (¬ x6 = 0 → (rW γ l m_X1_turnOn 0 0 95 [some (.ref x0), some (.int x1), some (.int x2), some (.int x3), some (.int x4), some (.int x5), some (.int x6), some (.int (((100 : Int32) * x3) + ((10 : Int32) * x6))), none, none] [.int (0 : Int32)] (sh, I, J, R) Q))))) :
    rW γ l m_X1_turnOn 0 0 67 [some (.ref x0), some (.int x1), some (.int x2), some (.int x3), some (.int x4), some (.int x5), some (.int x6), none, none, none] [] (sh, I, J, R) Q := by
  by_cases p0 : (2 : Int32) ≤ x6
  · have t := t.1 p0
    obtain ⟨hf, r, t, q⟩ := t
    exact ⟨hf, r, b_X1_turnOn_67  h_x0 (fun _ => t) (fun y0 _ => absurd p0 y0) (fun y0 _ => absurd p0 y0), q⟩
  · have t := t.2 p0
    by_cases p1 : x6 = 0
    · have t := t.1 p1
      obtain ⟨hf, r, t, q⟩ := t
      exact ⟨hf, r, b_X1_turnOn_67  h_x0 (fun y0 => absurd y0 p0) (fun _ y1 => absurd p1 y1) (fun _ _ => t), q⟩
    · have t := t.2 p1
      obtain ⟨hf, r, t, q⟩ := t
      exact ⟨hf, r, b_X1_turnOn_67  h_x0 (fun y0 => absurd y0 p0) (fun _ _ => t) (fun _ y1 => absurd y1 p1), q⟩
abbrev s_X1_turnOn_95 (γ : rG) (l : Launch) (x0 : Nat) (x1 : Int32) (x2 : Int32) (x3 : Int32) (x4 : Int32) (x5 : Int32) (x6 : Int32) (x7 : Int32) (s0 : Int32) (h : rHeap) (Q : rHeap → Option Value → Prop) : Prop := rW γ l m_X1_turnOn 0 0 95 [some (.ref x0), some (.int x1), some (.int x2), some (.int x3), some (.int x4), some (.int x5), some (.int x6), some (.int x7), none, none] [.int s0] h Q
theorem w_X1_turnOn_95 {γ : rG} {l : Launch} {Q : rHeap → Option Value → Prop} {sh : Nat × (Nat → Nat) × (Nat → Nat)} {I : Nat → Nat → Int32} {J : Nat → Nat → Int64} {R : Nat → Nat → Option Nat} {x0 : Nat} {x1 : Int32} {x2 : Int32} {x3 : Int32} {x4 : Int32} {x5 : Int32} {x6 : Int32} {x7 : Int32} {s0 : Int32}
    (h_x0 : At1 sh R x0)
    (t : ∃ (I1 : Nat → Nat → Int32) (J2 : Nat → Nat → Int64), rMet γ l m_X1_addTurned [.ref x0, .int x1, .int x7, .int s0, .int (8 : Int32), .int x4] (sh, I, J, R) (sh, I1, J2, R) none ∧ (∃ (I4 : Nat → Nat → Int32) (J5 : Nat → Nat → Int64), rMet γ l m_X1_addTurned [.ref x0, .int x1, .int (x7 + (1 : Int32)), .int s0, .int (0 : Int32), .int x5] (sh, I1, J2, R) (sh, I4, J5, R) none ∧ (rW γ l m_X1_turnOn 0 0 127 [some (.ref x0), some (.int x1), some (.int x2), some (.int x3), some (.int x4), some (.int x5), some (.int x6), some (.int x7), some (.int s0), some (.int (1 : Int32))] [] (sh, I4, J5, R) Q))) :
    rW γ l m_X1_turnOn 0 0 95 [some (.ref x0), some (.int x1), some (.int x2), some (.int x3), some (.int x4), some (.int x5), some (.int x6), some (.int x7), none, none] [.int s0] (sh, I, J, R) Q := by
  obtain ⟨I1, J2, m3, t⟩ := t
  obtain ⟨I4, J5, m6, t⟩ := t
  obtain ⟨hf, r, t, q⟩ := t
  exact ⟨hf, r, b_X1_turnOn_95  h_x0 m3 m6 t, q⟩
abbrev s_X1_turnOn_127 (γ : rG) (l : Launch) (x0 : Nat) (x1 : Int32) (x2 : Int32) (x3 : Int32) (x4 : Int32) (x5 : Int32) (x6 : Int32) (x7 : Int32) (x8 : Int32) (x9 : Int32) (h : rHeap) (Q : rHeap → Option Value → Prop) : Prop := rW γ l m_X1_turnOn 0 0 127 [some (.ref x0), some (.int x1), some (.int x2), some (.int x3), some (.int x4), some (.int x5), some (.int x6), some (.int x7), some (.int x8), some (.int x9)] [] h Q
theorem w_X1_turnOn_127 {γ : rG} {l : Launch} {Q : rHeap → Option Value → Prop} {sh : Nat × (Nat → Nat) × (Nat → Nat)} {I : Nat → Nat → Int32} {J : Nat → Nat → Int64} {R : Nat → Nat → Option Nat} {x0 : Nat} {x1 : Int32} {x2 : Int32} {x3 : Int32} {x4 : Int32} {x5 : Int32} {x6 : Int32} {x7 : Int32} {x8 : Int32} {x9 : Int32}
    (h_x0 : At1 sh R x0)
    (t : (x2 ≤ x9 → (rW γ l m_X1_turnOn 0 0 67 [some (.ref x0), some (.int x1), some (.int x2), some (.int x3), some (.int x4), some (.int x5), some (.int (x6 + (1 : Int32))), none, none, none] [] (sh, I, J, R) Q)) ∧ (¬ x2 ≤ x9 → (∃ (I3 : Nat → Nat → Int32) (J4 : Nat → Nat → Int64), rMet γ l m_X1_addTurned [.ref x0, .int x1, .int ((x7 + (1 : Int32)) + x9), .int x8, .int x9, .int x4] (sh, I, J, R) (sh, I3, J4, R) none ∧ (rW γ l m_X1_turnOn 0 0 127 [some (.ref x0), some (.int x1), some (.int x2), some (.int x3), some (.int x4), some (.int x5), some (.int x6), some (.int x7), some (.int x8), some (.int (x9 + (1 : Int32)))] [] (sh, I3, J4, R) Q)))) :
    rW γ l m_X1_turnOn 0 0 127 [some (.ref x0), some (.int x1), some (.int x2), some (.int x3), some (.int x4), some (.int x5), some (.int x6), some (.int x7), some (.int x8), some (.int x9)] [] (sh, I, J, R) Q := by
  by_cases p0 : x2 ≤ x9
  · have t := t.1 p0
    obtain ⟨hf, r, t, q⟩ := t
    exact ⟨hf, r, b_X1_turnOn_127 (I3 := I) (J4 := J) h_x0 (fun _ => t) (fun y0 => absurd p0 y0) (fun y0 => absurd p0 y0), q⟩
  · have t := t.2 p0
    obtain ⟨I3, J4, m5, t⟩ := t
    obtain ⟨hf, r, t, q⟩ := t
    exact ⟨hf, r, b_X1_turnOn_127  h_x0 (fun y0 => absurd y0 p0) (fun _ => m5) (fun _ => t), q⟩
abbrev s_X1_addTurned_0 (γ : rG) (l : Launch) (x0 : Nat) (x1 : Int32) (x2 : Int32) (x3 : Int32) (x4 : Int32) (x5 : Int32) (h : rHeap) (Q : rHeap → Option Value → Prop) : Prop := rW γ l m_X1_addTurned 0 0 0 [some (.ref x0), some (.int x1), some (.int x2), some (.int x3), some (.int x4), some (.int x5), none] [] h Q
theorem w_X1_addTurned_0 {γ : rG} {l : Launch} {Q : rHeap → Option Value → Prop} {sh : Nat × (Nat → Nat) × (Nat → Nat)} {I : Nat → Nat → Int32} {J : Nat → Nat → Int64} {R : Nat → Nat → Option Nat} {x0 : Nat} {x1 : Int32} {x2 : Int32} {x3 : Int32} {x4 : Int32} {x5 : Int32}
    (h_x0 : At1 sh R x0)
    (t : ∃ (I1 : Nat → Nat → Int32), rMet γ l m_X2_turn [.ref (x0 + 12), .ref (x0 + 6), .int (x2 / (100 : Int32)), .int x3, .int x4] (sh, I, J, R) (sh, I1, J, R) none ∧ ((x4 ≤ 0 → (rW γ l m_X1_addTurned 0 0 34 [some (.ref x0), some (.int x1), some (.int x2), none, none, some (.int x5), none] [] (sh, I1, J, R) Q)) ∧ (¬ x4 ≤ 0 → (((8 : Int32) ≤ x4 → (rW γ l m_X1_addTurned 0 0 34 [some (.ref x0), some (.int x1), some (.int x2), none, none, some (.int x5), none] [] (sh, I1, J, R) Q)) ∧ (¬ (8 : Int32) ≤ x4 → (rW γ l m_X1_addTurned 0 0 35 [some (.ref x0), some (.int x1), some (.int x2), none, none, some (.int x5), none] [.int (1 : Int32)] (sh, I1, J, R) Q)))))) :
    rW γ l m_X1_addTurned 0 0 0 [some (.ref x0), some (.int x1), some (.int x2), some (.int x3), some (.int x4), some (.int x5), none] [] (sh, I, J, R) Q := by
  obtain ⟨I1, m2, t⟩ := t
  by_cases p0 : x4 ≤ 0
  · have t := t.1 p0
    obtain ⟨hf, r, t, q⟩ := t
    exact ⟨hf, r, b_X1_addTurned_0  h_x0 m2 (fun _ => t) (fun y0 _ => absurd p0 y0) (fun y0 _ => absurd p0 y0), q⟩
  · have t := t.2 p0
    by_cases p1 : (8 : Int32) ≤ x4
    · have t := t.1 p1
      obtain ⟨hf, r, t, q⟩ := t
      exact ⟨hf, r, b_X1_addTurned_0  h_x0 m2 (fun y0 => absurd y0 p0) (fun _ _ => t) (fun _ y1 => absurd p1 y1), q⟩
    · have t := t.2 p1
      obtain ⟨hf, r, t, q⟩ := t
      exact ⟨hf, r, b_X1_addTurned_0  h_x0 m2 (fun y0 => absurd y0 p0) (fun _ y1 => absurd y1 p1) (fun _ _ => t), q⟩
abbrev s_X1_addTurned_34 (γ : rG) (l : Launch) (x0 : Nat) (x1 : Int32) (x2 : Int32) (x5 : Int32) (h : rHeap) (Q : rHeap → Option Value → Prop) : Prop := rW γ l m_X1_addTurned 0 0 34 [some (.ref x0), some (.int x1), some (.int x2), none, none, some (.int x5), none] [] h Q
theorem w_X1_addTurned_34 {γ : rG} {l : Launch} {Q : rHeap → Option Value → Prop} {sh : Nat × (Nat → Nat) × (Nat → Nat)} {I : Nat → Nat → Int32} {J : Nat → Nat → Int64} {R : Nat → Nat → Option Nat} {x0 : Nat} {x1 : Int32} {x2 : Int32} {x5 : Int32}
    (h_x0 : At1 sh R x0)
    (t : rW γ l m_X1_addTurned 0 0 35 [some (.ref x0), some (.int x1), some (.int x2), none, none, some (.int x5), none] [.int (0 : Int32)] (sh, I, J, R) Q) :
    rW γ l m_X1_addTurned 0 0 34 [some (.ref x0), some (.int x1), some (.int x2), none, none, some (.int x5), none] [] (sh, I, J, R) Q := by
  obtain ⟨hf, r, t, q⟩ := t
  exact ⟨hf, r, b_X1_addTurned_34  h_x0 t, q⟩
abbrev s_X1_addTurned_35 (γ : rG) (l : Launch) (x0 : Nat) (x1 : Int32) (x2 : Int32) (x5 : Int32) (s0 : Int32) (h : rHeap) (Q : rHeap → Option Value → Prop) : Prop := rW γ l m_X1_addTurned 0 0 35 [some (.ref x0), some (.int x1), some (.int x2), none, none, some (.int x5), none] [.int s0] h Q
theorem w_X1_addTurned_35 {γ : rG} {l : Launch} {Q : rHeap → Option Value → Prop} {sh : Nat × (Nat → Nat) × (Nat → Nat)} {I : Nat → Nat → Int32} {J : Nat → Nat → Int64} {R : Nat → Nat → Option Nat} {x0 : Nat} {x1 : Int32} {x2 : Int32} {x5 : Int32} {s0 : Int32}
    (h_x0 : At1 sh R x0)
    (t : (s0 = 0 → (rW γ l m_X1_addTurned 0 0 53 [some (.ref x0), some (.int x1), some (.int x2), none, none, some (.int x5), none] [] (sh, I, J, R) Q)) ∧ (¬ s0 = 0 → (∃ (v4 : Int32), rMet γ l m_X2_passesThrough [.ref (x0 + 12)] (sh, I, J, R) (sh, I, J, R) (some (.int v4)) ∧ ((v4 = 0 → (rW γ l m_X1_addTurned 0 0 53 [some (.ref x0), some (.int x1), some (.int x2), none, none, some (.int x5), none] [] (sh, I, J, R) Q)) ∧ (¬ v4 = 0 → (Q (sh, I, J, R) (none))))))) :
    rW γ l m_X1_addTurned 0 0 35 [some (.ref x0), some (.int x1), some (.int x2), none, none, some (.int x5), none] [.int s0] (sh, I, J, R) Q := by
  by_cases p0 : s0 = 0
  · have t := t.1 p0
    obtain ⟨hf, r, t, q⟩ := t
    exact ⟨hf, r, b_X1_addTurned_35 (v4 := 0) h_x0 (fun _ => t) (fun y0 => absurd p0 y0) (fun y0 _ => absurd p0 y0) (fun y0 _ => absurd p0 y0), q⟩
  · have t := t.2 p0
    obtain ⟨v4, m3, t⟩ := t
    by_cases p1 : v4 = 0
    · have t := t.1 p1
      obtain ⟨hf, r, t, q⟩ := t
      exact ⟨hf, r, b_X1_addTurned_35  h_x0 (fun y0 => absurd y0 p0) (fun _ => m3) (fun _ _ => t) (fun _ y1 => absurd p1 y1), q⟩
    · have t := t.2 p1
      exact ⟨_, _, b_X1_addTurned_35  h_x0 (fun y0 => absurd y0 p0) (fun _ => m3) (fun _ y1 => absurd y1 p1) (fun _ _ => ⟨rfl, rfl⟩), t⟩
abbrev s_X1_addTurned_53 (γ : rG) (l : Launch) (x0 : Nat) (x1 : Int32) (x2 : Int32) (x5 : Int32) (h : rHeap) (Q : rHeap → Option Value → Prop) : Prop := rW γ l m_X1_addTurned 0 0 53 [some (.ref x0), some (.int x1), some (.int x2), none, none, some (.int x5), none] [] h Q
theorem w_X1_addTurned_53 {γ : rG} {l : Launch} {Q : rHeap → Option Value → Prop} {sh : Nat × (Nat → Nat) × (Nat → Nat)} {I : Nat → Nat → Int32} {J : Nat → Nat → Int64} {R : Nat → Nat → Option Nat} {x0 : Nat} {x1 : Int32} {x2 : Int32} {x5 : Int32}
    (h_x0 : At1 sh R x0)
    (t : ∃ (v2 : Int64), rMet γ l m_X2_packed [.ref (x0 + 12)] (sh, I, J, R) (sh, I, J, R) (some (.long v2)) ∧ (vp_in x1 1300 ∧ (vp_in x1 1300 ∧ (∃ (I5 : Nat → Nat → Int32) (J6 : Nat → Nat → Int64), rMet γ l m_X1_add [.ref x0, .long (((x5).toInt64 <<< (((49 : Int32)).toInt64 &&& 63)) ||| v2), .int (I (x0 + 2) x1.toNatClampNeg), .int (((I (x0 + 3) x1.toNatClampNeg) <<< ((10 : Int32) &&& 31)) ||| x2)] (sh, I, J, R) (sh, I5, J6, R) none ∧ (Q (sh, I5, J6, R) (none)))))) :
    rW γ l m_X1_addTurned 0 0 53 [some (.ref x0), some (.int x1), some (.int x2), none, none, some (.int x5), none] [] (sh, I, J, R) Q := by
  obtain ⟨v2, m1, t⟩ := t
  obtain ⟨b3, t⟩ := t
  obtain ⟨b4, t⟩ := t
  obtain ⟨I5, J6, m7, t⟩ := t
  exact ⟨_, _, b_X1_addTurned_53  h_x0 m1 b3 b4 m7 ⟨rfl, rfl⟩, t⟩
abbrev s_X1_startLevel_0 (γ : rG) (l : Launch) (x0 : Nat) (h : rHeap) (Q : rHeap → Option Value → Prop) : Prop := rW γ l m_X1_startLevel 0 0 0 [some (.ref x0)] [] h Q
theorem w_X1_startLevel_0 {γ : rG} {l : Launch} {Q : rHeap → Option Value → Prop} {sh : Nat × (Nat → Nat) × (Nat → Nat)} {I : Nat → Nat → Int32} {J : Nat → Nat → Int64} {R : Nat → Nat → Option Nat} {x0 : Nat}
    (h_x0 : At1 sh R x0)
    (t : ∃ (I1 : Nat → Nat → Int32), rMet γ l m_J7_fill_53178 [.ref (x0 + 5), .int (-1 : Int32)] (sh, I, J, R) (sh, I1, J, R) none ∧ (Q (sh, I1, J, R) (none))) :
    rW γ l m_X1_startLevel 0 0 0 [some (.ref x0)] [] (sh, I, J, R) Q := by
  obtain ⟨I1, m2, t⟩ := t
  exact ⟨_, _, b_X1_startLevel_0  h_x0 m2 ⟨rfl, rfl⟩, t⟩
abbrev s_X1_add_0 (γ : rG) (l : Launch) (x0 : Nat) (x1 : Int64) (x3 : Int32) (x4 : Int32) (h : rHeap) (Q : rHeap → Option Value → Prop) : Prop := rW γ l m_X1_add 0 0 0 [some (.ref x0), some (.long x1), none, some (.int x3), some (.int x4), none, none, none] [] h Q
theorem w_X1_add_0 {γ : rG} {l : Launch} {Q : rHeap → Option Value → Prop} {sh : Nat × (Nat → Nat) × (Nat → Nat)} {I : Nat → Nat → Int32} {J : Nat → Nat → Int64} {R : Nat → Nat → Option Nat} {x0 : Nat} {x1 : Int64} {x3 : Int32} {x4 : Int32}
    (h_x0 : At1 sh R x0)
    (t : rW γ l m_X1_add 0 0 14 [some (.ref x0), some (.long x1), none, some (.int x3), some (.int x4), some (.int (((((x1 * (-7046029254386353131 : Int64))).toUInt64 >>> (((53 : Int32)).toInt64.toUInt64 &&& Int64.toUInt64 63)).toInt64).toInt32)), some (.int (0 : Int32)), none] [] (sh, I, J, R) Q) :
    rW γ l m_X1_add 0 0 0 [some (.ref x0), some (.long x1), none, some (.int x3), some (.int x4), none, none, none] [] (sh, I, J, R) Q := by
  obtain ⟨hf, r, t, q⟩ := t
  exact ⟨hf, r, b_X1_add_0  h_x0 t, q⟩
abbrev s_X1_add_14 (γ : rG) (l : Launch) (x0 : Nat) (x1 : Int64) (x3 : Int32) (x4 : Int32) (x5 : Int32) (x6 : Int32) (h : rHeap) (Q : rHeap → Option Value → Prop) : Prop := rW γ l m_X1_add 0 0 14 [some (.ref x0), some (.long x1), none, some (.int x3), some (.int x4), some (.int x5), some (.int x6), none] [] h Q
theorem w_X1_add_14 {γ : rG} {l : Launch} {Q : rHeap → Option Value → Prop} {sh : Nat × (Nat → Nat) × (Nat → Nat)} {I : Nat → Nat → Int32} {J : Nat → Nat → Int64} {R : Nat → Nat → Option Nat} {x0 : Nat} {x1 : Int64} {x3 : Int32} {x4 : Int32} {x5 : Int32} {x6 : Int32}
    (h_x0 : At1 sh R x0)
    (t : ((2048 : Int32) ≤ x6 → (Q (sh, I, J, R) (none))) ∧ (¬ (2048 : Int32) ≤ x6 → (vp_in x5 2048 ∧ (((I (x0 + 5) x5.toNatClampNeg) = (-1 : Int32) → (∃ (I11 : Nat → Nat → Int32) (J12 : Nat → Nat → Int64), rMet γ l m_X1_append [.ref x0, .int x5, .long x1, .int x3, .int x4] (sh, I, J, R) (sh, I11, J12, R) none ∧ (Q (sh, I11, J12, R) (none)))) ∧ (¬ (I (x0 + 5) x5.toNatClampNeg) = (-1 : Int32) → (vp_in ((I (x0 + 5) x5.toNatClampNeg)) 1300 ∧ (((lg_cmp ((J (x0 + 1) ((I (x0 + 5) x5.toNatClampNeg)).toNatClampNeg)) x1) = 0 → (vp_in ((I (x0 + 5) x5.toNatClampNeg)) 1300 ∧ (vp_in ((I (x0 + 5) x5.toNatClampNeg)) 1300 ∧ (Q (sh, (up I (x0 + 2) ((I (x0 + 5) x5.toNatClampNeg)).toNatClampNeg (((I (x0 + 2) ((I (x0 + 5) x5.toNatClampNeg)).toNatClampNeg) + x3))), J, R) (none))))) ∧ (¬ (lg_cmp ((J (x0 + 1) ((I (x0 + 5) x5.toNatClampNeg)).toNatClampNeg)) x1) = 0 → (rW γ l m_X1_add 0 0 14 [some (.ref x0), some (.long x1), none, some (.int x3), some (.int x4), some (.int ((x5 + (1 : Int32)) &&& (2047 : Int32))), some (.int (x6 + (1 : Int32))), none] [] (sh, I, J, R) Q))))))))) :
    rW γ l m_X1_add 0 0 14 [some (.ref x0), some (.long x1), none, some (.int x3), some (.int x4), some (.int x5), some (.int x6), none] [] (sh, I, J, R) Q := by
  by_cases p0 : (2048 : Int32) ≤ x6
  · have t := t.1 p0
    exact ⟨_, _, b_X1_add_14 (I11 := I) (J12 := J) h_x0 (fun _ => ⟨rfl, rfl⟩) (fun y0 => absurd p0 y0) (fun y0 _ => absurd p0 y0) (fun y0 _ _ => absurd p0 y0) (fun y0 _ _ => absurd p0 y0) (fun y0 _ _ => absurd p0 y0) (fun y0 _ _ => absurd p0 y0) (fun y0 _ => absurd p0 y0) (fun y0 _ => absurd p0 y0), t⟩
  · have t := t.2 p0
    obtain ⟨b3, t⟩ := t
    by_cases p1 : (I (x0 + 5) x5.toNatClampNeg) = (-1 : Int32)
    · have t := t.1 p1
      obtain ⟨I11, J12, m13, t⟩ := t
      exact ⟨_, _, b_X1_add_14  h_x0 (fun y0 => absurd y0 p0) (fun _ => b3) (fun _ y1 => absurd p1 y1) (fun _ y1 _ => absurd p1 y1) (fun _ y1 _ => absurd p1 y1) (fun _ y1 _ => absurd p1 y1) (fun _ y1 _ => absurd p1 y1) (fun _ _ => m13) (fun _ _ => ⟨rfl, rfl⟩), t⟩
    · have t := t.2 p1
      obtain ⟨b5, t⟩ := t
      by_cases p2 : (lg_cmp ((J (x0 + 1) ((I (x0 + 5) x5.toNatClampNeg)).toNatClampNeg)) x1) = 0
      · have t := t.1 p2
        obtain ⟨b8, t⟩ := t
        obtain ⟨b9, t⟩ := t
        exact ⟨_, _, b_X1_add_14 (I11 := I) (J12 := J) h_x0 (fun y0 => absurd y0 p0) (fun _ => b3) (fun _ _ => b5) (fun _ _ y2 => absurd p2 y2) (fun _ _ _ => b8) (fun _ _ _ => b9) (fun _ _ _ => ⟨rfl, rfl⟩) (fun _ y1 => absurd y1 p1) (fun _ y1 => absurd y1 p1), t⟩
      · have t := t.2 p2
        obtain ⟨hf, r, t, q⟩ := t
        exact ⟨hf, r, b_X1_add_14 (I11 := I) (J12 := J) h_x0 (fun y0 => absurd y0 p0) (fun _ => b3) (fun _ _ => b5) (fun _ _ _ => t) (fun _ _ y2 => absurd y2 p2) (fun _ _ y2 => absurd y2 p2) (fun _ _ y2 => absurd y2 p2) (fun _ y1 => absurd y1 p1) (fun _ y1 => absurd y1 p1), q⟩
abbrev s_X1_append_0 (γ : rG) (l : Launch) (x0 : Nat) (x1 : Int32) (x2 : Int64) (x4 : Int32) (x5 : Int32) (h : rHeap) (Q : rHeap → Option Value → Prop) : Prop := rW γ l m_X1_append 0 0 0 [some (.ref x0), some (.int x1), some (.long x2), none, some (.int x4), some (.int x5)] [] h Q
theorem w_X1_append_0 {γ : rG} {l : Launch} {Q : rHeap → Option Value → Prop} {sh : Nat × (Nat → Nat) × (Nat → Nat)} {I : Nat → Nat → Int32} {J : Nat → Nat → Int64} {R : Nat → Nat → Option Nat} {x0 : Nat} {x1 : Int32} {x2 : Int64} {x4 : Int32} {x5 : Int32}
    (h_x0 : At1 sh R x0)
    (t : ((1300 : Int32) ≤ (I x0 1) → (Q (sh, I, J, R) (none))) ∧ (¬ (1300 : Int32) ≤ (I x0 1) → (vp_in x1 2048 ∧ (vp_in (((up I (x0 + 5) x1.toNatClampNeg (I x0 1)) x0 1)) 1300 ∧ (vp_in (((up I (x0 + 5) x1.toNatClampNeg (I x0 1)) x0 1)) 1300 ∧ (vp_in (((up (up I (x0 + 5) x1.toNatClampNeg (I x0 1)) (x0 + 2) (((up I (x0 + 5) x1.toNatClampNeg (I x0 1)) x0 1)).toNatClampNeg x4) x0 1)) 1300 ∧ (Q (sh, (up (up (up (up I (x0 + 5) x1.toNatClampNeg (I x0 1)) (x0 + 2) (((up I (x0 + 5) x1.toNatClampNeg (I x0 1)) x0 1)).toNatClampNeg x4) (x0 + 3) (((up (up I (x0 + 5) x1.toNatClampNeg (I x0 1)) (x0 + 2) (((up I (x0 + 5) x1.toNatClampNeg (I x0 1)) x0 1)).toNatClampNeg x4) x0 1)).toNatClampNeg x5) x0 1 ((((up (up (up I (x0 + 5) x1.toNatClampNeg (I x0 1)) (x0 + 2) (((up I (x0 + 5) x1.toNatClampNeg (I x0 1)) x0 1)).toNatClampNeg x4) (x0 + 3) (((up (up I (x0 + 5) x1.toNatClampNeg (I x0 1)) (x0 + 2) (((up I (x0 + 5) x1.toNatClampNeg (I x0 1)) x0 1)).toNatClampNeg x4) x0 1)).toNatClampNeg x5) x0 1) + (1 : Int32)))), (up J (x0 + 1) (((up I (x0 + 5) x1.toNatClampNeg (I x0 1)) x0 1)).toNatClampNeg x2), R) (none)))))))) :
    rW γ l m_X1_append 0 0 0 [some (.ref x0), some (.int x1), some (.long x2), none, some (.int x4), some (.int x5)] [] (sh, I, J, R) Q := by
  by_cases p0 : (1300 : Int32) ≤ (I x0 1)
  · have t := t.1 p0
    exact ⟨_, _, b_X1_append_0  h_x0 (fun _ => ⟨rfl, rfl⟩) (fun y0 => absurd p0 y0) (fun y0 => absurd p0 y0) (fun y0 => absurd p0 y0) (fun y0 => absurd p0 y0) (fun y0 => absurd p0 y0), t⟩
  · have t := t.2 p0
    obtain ⟨b3, t⟩ := t
    obtain ⟨b4, t⟩ := t
    obtain ⟨b5, t⟩ := t
    obtain ⟨b6, t⟩ := t
    exact ⟨_, _, b_X1_append_0  h_x0 (fun y0 => absurd y0 p0) (fun _ => b3) (fun _ => b4) (fun _ => b5) (fun _ => b6) (fun _ => ⟨rfl, rfl⟩), t⟩
