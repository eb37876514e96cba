abbrev s_X5_layFlat_0 (γ : rG) (l : Launch) (x0 : Nat) (x1 : Int32) (h : rHeap) (Q : rHeap → Option Value → Prop) : Prop := rW γ l m_X5_layFlat 0 0 0 [some (.ref x0), some (.int x1)] [] h Q
theorem w_X5_layFlat_0 {γ : rG} {l : Launch} {Q : rHeap → Option Value → Prop} {sh : Nat × (Nat → Nat) × (Nat → Nat)} {I : Nat → Nat → Int32} {J : Nat → Nat → Int64} {R : Nat → Nat → Option Nat} {x0 : Nat} {x1 : Int32}
    (h_x0 : At5 sh R x0)
    (t : ∃ (I1 : Nat → Nat → Int32), rMet γ l m_J7_fill_53178 [.ref (x0 + 1), .int (0 : Int32)] (sh, (up (up (up (up I x0 0 x1) x0 1 (0 : Int32)) x0 2 (0 : Int32)) x0 3 (0 : Int32)), J, R) (sh, I1, J, R) none ∧ (∃ (I3 : Nat → Nat → Int32), rMet γ l m_J7_fill_53178 [.ref (x0 + 2), .int (0 : Int32)] (sh, I1, J, R) (sh, I3, J, R) none ∧ (vp_in (0 : Int32) 17 ∧ (∃ (b6 : Nat), R (x0 + 3) (0 : Int32).toNatClampNeg = some b6 ∧ (At2 sh R b6 ∧ (∃ (I8 : Nat → Nat → Int32), rMet γ l m_X2_layFlat [.ref b6, .int x1] (sh, I3, J, R) (sh, I8, J, R) none ∧ (Q (sh, I8, J, R) (none)))))))) :
    rW γ l m_X5_layFlat 0 0 0 [some (.ref x0), some (.int x1)] [] (sh, I, J, R) Q := by
  obtain ⟨I1, m2, t⟩ := t
  obtain ⟨I3, m4, t⟩ := t
  obtain ⟨b5, t⟩ := t
  obtain ⟨b6, e7, t⟩ := t
  obtain ⟨h_b6, t⟩ := t
  obtain ⟨I8, m9, t⟩ := t
  exact ⟨_, _, b_X5_layFlat_0  h_x0 m2 m4 b5 e7 h_b6 m9 ⟨rfl, rfl⟩, t⟩
abbrev s_X5_packet_0 (γ : rG) (l : Launch) (x0 : Nat) (h : rHeap) (Q : rHeap → Option Value → Prop) : Prop := rW γ l m_X5_packet 0 0 0 [some (.ref x0)] [] h Q
theorem w_X5_packet_0 {γ : rG} {l : Launch} {Q : rHeap → Option Value → Prop} {sh : Nat × (Nat → Nat) × (Nat → Nat)} {I : Nat → Nat → Int32} {J : Nat → Nat → Int64} {R : Nat → Nat → Option Nat} {x0 : Nat}
    (h_x0 : At5 sh R x0)
    (t : vp_in (I x0 1) 17 ∧ (∃ (b2 : Nat), R (x0 + 3) (I x0 1).toNatClampNeg = some b2 ∧ (At2 sh R b2 ∧ (Q (sh, I, J, R) (some (.ref b2)))))) :
    rW γ l m_X5_packet 0 0 0 [some (.ref x0)] [] (sh, I, J, R) Q := by
  obtain ⟨b1, t⟩ := t
  obtain ⟨b2, e3, t⟩ := t
  obtain ⟨h_b2, t⟩ := t
  exact ⟨_, _, b_X5_packet_0  h_x0 b1 e3 h_b2 ⟨rfl, rfl⟩, t⟩
abbrev s_X5_hasPart_0 (γ : rG) (l : Launch) (x0 : Nat) (x1 : Int32) (h : rHeap) (Q : rHeap → Option Value → Prop) : Prop := rW γ l m_X5_hasPart 0 0 0 [some (.ref x0), some (.int x1)] [] h Q
theorem w_X5_hasPart_0 {γ : rG} {l : Launch} {Q : rHeap → Option Value → Prop} {sh : Nat × (Nat → Nat) × (Nat → Nat)} {I : Nat → Nat → Int32} {J : Nat → Nat → Int64} {R : Nat → Nat → Option Nat} {x0 : Nat} {x1 : Int32}
    (h_x0 : At5 sh R x0)
    (t : (x1 < 0 → (Q (sh, I, J, R) (some (.int (0 : Int32))))) ∧ (¬ x1 < 0 → (((I x0 0) ≤ x1 → (Q (sh, I, J, R) (some (.int (0 : Int32))))) ∧ (¬ (I x0 0) ≤ x1 → (Q (sh, I, J, R) (some (.int (1 : Int32)))))))) :
    rW γ l m_X5_hasPart 0 0 0 [some (.ref x0), some (.int x1)] [] (sh, I, J, R) Q := by
  by_cases p0 : x1 < 0
  · have t := t.1 p0
    exact ⟨_, _, b_X5_hasPart_0  h_x0 (fun _ => ⟨rfl, rfl⟩) (fun y0 _ => absurd p0 y0) (fun y0 _ => absurd p0 y0), t⟩
  · have t := t.2 p0
    by_cases p1 : (I x0 0) ≤ x1
    · have t := t.1 p1
      exact ⟨_, _, b_X5_hasPart_0  h_x0 (fun y0 => absurd y0 p0) (fun _ _ => ⟨rfl, rfl⟩) (fun _ y1 => absurd p1 y1), t⟩
    · have t := t.2 p1
      exact ⟨_, _, b_X5_hasPart_0  h_x0 (fun y0 => absurd y0 p0) (fun _ y1 => absurd y1 p1) (fun _ _ => ⟨rfl, rfl⟩), t⟩
abbrev s_X5_hasAct_0 (γ : rG) (l : Launch) (x0 : Nat) (x1 : Int32) (h : rHeap) (Q : rHeap → Option Value → Prop) : Prop := rW γ l m_X5_hasAct 0 0 0 [some (.ref x0), some (.int x1)] [] h Q
theorem w_X5_hasAct_0 {γ : rG} {l : Launch} {Q : rHeap → Option Value → Prop} {sh : Nat × (Nat → Nat) × (Nat → Nat)} {I : Nat → Nat → Int32} {J : Nat → Nat → Int64} {R : Nat → Nat → Option Nat} {x0 : Nat} {x1 : Int32}
    (h_x0 : At5 sh R x0)
    (t : (x1 < 0 → (Q (sh, I, J, R) (some (.int (0 : Int32))))) ∧ (¬ x1 < 0 → (((I x0 1) ≤ x1 → (Q (sh, I, J, R) (some (.int (0 : Int32))))) ∧ (¬ (I x0 1) ≤ x1 → (Q (sh, I, J, R) (some (.int (1 : Int32)))))))) :
    rW γ l m_X5_hasAct 0 0 0 [some (.ref x0), some (.int x1)] [] (sh, I, J, R) Q := by
  by_cases p0 : x1 < 0
  · have t := t.1 p0
    exact ⟨_, _, b_X5_hasAct_0  h_x0 (fun _ => ⟨rfl, rfl⟩) (fun y0 _ => absurd p0 y0) (fun y0 _ => absurd p0 y0), t⟩
  · have t := t.2 p0
    by_cases p1 : (I x0 1) ≤ x1
    · have t := t.1 p1
      exact ⟨_, _, b_X5_hasAct_0  h_x0 (fun y0 => absurd y0 p0) (fun _ _ => ⟨rfl, rfl⟩) (fun _ y1 => absurd p1 y1), t⟩
    · have t := t.2 p1
      exact ⟨_, _, b_X5_hasAct_0  h_x0 (fun y0 => absurd y0 p0) (fun _ y1 => absurd y1 p1) (fun _ _ => ⟨rfl, rfl⟩), t⟩
abbrev s_X5_turnAt_0 (γ : rG) (l : Launch) (x0 : Nat) (x1 : Int32) (x2 : Int32) (x3 : Int32) (x4 : Int32) (h : rHeap) (Q : rHeap → Option Value → Prop) : Prop := rW γ l m_X5_turnAt 0 0 0 [some (.ref x0), some (.int x1), some (.int x2), some (.int x3), some (.int x4), none, none] [] h Q
theorem w_X5_turnAt_0 {γ : rG} {l : Launch} {Q : rHeap → Option Value → Prop} {sh : Nat × (Nat → Nat) × (Nat → Nat)} {I : Nat → Nat → Int32} {J : Nat → Nat → Int64} {R : Nat → Nat → Option Nat} {x0 : Nat} {x1 : Int32} {x2 : Int32} {x3 : Int32} {x4 : Int32}
    (h_x0 : At5 sh R x0)
    (t : ∃ (b2 : Nat), rMet γ l m_X5_packet [.ref x0] (sh, I, J, R) (sh, I, J, R) (some (.ref b2)) ∧ (At2 sh R b2 ∧ (((16 : Int32) ≤ (I x0 1) → (Q (sh, I, J, R) (some (.int (-1 : Int32))))) ∧ (¬ (16 : Int32) ≤ (I x0 1) → ((x2 < (1 : Int32) → (Q (sh, I, J, R) (some (.int (-1 : Int32))))) ∧ (¬ x2 < (1 : Int32) → ((x2 < (I b2 1) → (vp_in (((I x0 1) + (1 : Int32))) 17 ∧ (∃ (b9 : Nat), R (x0 + 3) (((I x0 1) + (1 : Int32))).toNatClampNeg = some b9 ∧ (At2 sh R b9 ∧ (∃ (I11 : Nat → Nat → Int32), rMet γ l m_X2_turn [.ref b9, .ref b2, .int x2, .int x3, .int x4] (sh, I, J, R) (sh, I11, J, R) none ∧ ((x1 = (1 : Int32) → (∃ (v16 : Int32), rMet γ l m_X2_passesThrough [.ref b9] (sh, I11, J, R) (sh, I11, J, R) (some (.int v16)) ∧ ((v16 = 0 → (rW γ l m_X5_turnAt 0 0 71 [some (.ref x0), some (.int x1), some (.int x2), some (.int x3), some (.int x4), some (.ref b2), none] [] (sh, I11, J, R) Q)) ∧ (¬ v16 = 0 → (Q (sh, I11, J, R) (some (.int (-2 : Int32)))))))) ∧ (¬ x1 = (1 : Int32) → (rW γ l m_X5_turnAt 0 0 71 [some (.ref x0), some (.int x1), some (.int x2), some (.int x3), some (.int x4), some (.ref b2), none] [] (sh, I11, J, R) Q)))))))) ∧ (¬ x2 < (I b2 1) → (Q (sh, I, J, R) (some (.int (-1 : Int32)))))))))))) :
    rW γ l m_X5_turnAt 0 0 0 [some (.ref x0), some (.int x1), some (.int x2), some (.int x3), some (.int x4), none, none] [] (sh, I, J, R) Q := by
  obtain ⟨b2, m1, t⟩ := t
  obtain ⟨h_b2, t⟩ := t
  by_cases p0 : (16 : Int32) ≤ (I x0 1)
  · have t := t.1 p0
    exact ⟨_, _, b_X5_turnAt_0 (b9 := 0) (I11 := I) (v16 := 0) h_x0 m1 h_b2 (fun _ => ⟨rfl, rfl⟩) (fun y0 _ => absurd p0 y0) (fun y0 _ _ => absurd p0 y0) (fun y0 _ _ => absurd p0 y0) (fun y0 _ _ => absurd p0 y0) (fun y0 _ _ => absurd p0 y0) (fun y0 _ _ _ => absurd p0 y0) (fun y0 _ _ _ => absurd p0 y0) (fun y0 _ _ _ _ => absurd p0 y0) (fun y0 _ _ _ _ => absurd p0 y0) (fun y0 _ _ => absurd p0 y0), t⟩
  · have t := t.2 p0
    by_cases p1 : x2 < (1 : Int32)
    · have t := t.1 p1
      exact ⟨_, _, b_X5_turnAt_0 (b9 := 0) (I11 := I) (v16 := 0) h_x0 m1 h_b2 (fun y0 => absurd y0 p0) (fun _ _ => ⟨rfl, rfl⟩) (fun _ y1 _ => absurd p1 y1) (fun _ y1 _ => absurd p1 y1) (fun _ y1 _ => absurd p1 y1) (fun _ y1 _ => absurd p1 y1) (fun _ y1 _ _ => absurd p1 y1) (fun _ y1 _ _ => absurd p1 y1) (fun _ y1 _ _ _ => absurd p1 y1) (fun _ y1 _ _ _ => absurd p1 y1) (fun _ y1 _ => absurd p1 y1), t⟩
    · have t := t.2 p1
      by_cases p2 : x2 < (I b2 1)
      · have t := t.1 p2
        obtain ⟨b8, t⟩ := t
        obtain ⟨b9, e10, t⟩ := t
        obtain ⟨h_b9, t⟩ := t
        obtain ⟨I11, m12, t⟩ := t
        by_cases p3 : x1 = (1 : Int32)
        · have t := t.1 p3
          obtain ⟨v16, m15, t⟩ := t
          by_cases p4 : v16 = 0
          · have t := t.1 p4
            obtain ⟨hf, r, t, q⟩ := t
            exact ⟨hf, r, b_X5_turnAt_0  h_x0 m1 h_b2 (fun y0 => absurd y0 p0) (fun _ y1 => absurd y1 p1) (fun _ _ _ => b8) (fun _ _ _ => e10) (fun _ _ _ => h_b9) (fun _ _ _ => m12) (fun _ _ _ y3 => absurd p3 y3) (fun _ _ _ _ => m15) (fun _ _ _ _ _ => t) (fun _ _ _ _ y4 => absurd p4 y4) (fun _ _ y2 => absurd p2 y2), q⟩
          · have t := t.2 p4
            exact ⟨_, _, b_X5_turnAt_0  h_x0 m1 h_b2 (fun y0 => absurd y0 p0) (fun _ y1 => absurd y1 p1) (fun _ _ _ => b8) (fun _ _ _ => e10) (fun _ _ _ => h_b9) (fun _ _ _ => m12) (fun _ _ _ y3 => absurd p3 y3) (fun _ _ _ _ => m15) (fun _ _ _ _ y4 => absurd y4 p4) (fun _ _ _ _ _ => ⟨rfl, rfl⟩) (fun _ _ y2 => absurd p2 y2), t⟩
        · have t := t.2 p3
          obtain ⟨hf, r, t, q⟩ := t
          exact ⟨hf, r, b_X5_turnAt_0 (v16 := 0) h_x0 m1 h_b2 (fun y0 => absurd y0 p0) (fun _ y1 => absurd y1 p1) (fun _ _ _ => b8) (fun _ _ _ => e10) (fun _ _ _ => h_b9) (fun _ _ _ => m12) (fun _ _ _ _ => t) (fun _ _ _ y3 => absurd y3 p3) (fun _ _ _ y3 _ => absurd y3 p3) (fun _ _ _ y3 _ => absurd y3 p3) (fun _ _ y2 => absurd p2 y2), q⟩
      · have t := t.2 p2
        exact ⟨_, _, b_X5_turnAt_0 (b9 := 0) (I11 := I) (v16 := 0) h_x0 m1 h_b2 (fun y0 => absurd y0 p0) (fun _ y1 => absurd y1 p1) (fun _ _ y2 => absurd y2 p2) (fun _ _ y2 => absurd y2 p2) (fun _ _ y2 => absurd y2 p2) (fun _ _ y2 => absurd y2 p2) (fun _ _ y2 _ => absurd y2 p2) (fun _ _ y2 _ => absurd y2 p2) (fun _ _ y2 _ _ => absurd y2 p2) (fun _ _ y2 _ _ => absurd y2 p2) (fun _ _ _ => ⟨rfl, rfl⟩), t⟩
abbrev s_X5_turnAt_71 (γ : rG) (l : Launch) (x0 : Nat) (x1 : Int32) (x2 : Int32) (x3 : Int32) (x4 : Int32) (x5 : Nat) (h : rHeap) (Q : rHeap → Option Value → Prop) : Prop := rW γ l m_X5_turnAt 0 0 71 [some (.ref x0), some (.int x1), some (.int x2), some (.int x3), some (.int x4), some (.ref x5), none] [] h Q
theorem w_X5_turnAt_71 {γ : rG} {l : Launch} {Q : rHeap → Option Value → Prop} {sh : Nat × (Nat → Nat) × (Nat → Nat)} {I : Nat → Nat → Int32} {J : Nat → Nat → Int64} {R : Nat → Nat → Option Nat} {x0 : Nat} {x1 : Int32} {x2 : Int32} {x3 : Int32} {x4 : Int32} {x5 : Nat}
    (h_x0 : At5 sh R x0)
    (h_x5 : At2 sh R x5)
    (t : (x4 ≤ 0 → (rW γ l m_X5_turnAt 0 0 89 [some (.ref x0), some (.int x1), some (.int x2), some (.int x3), none, some (.ref x5), none] [.int (0 : Int32), .int x2, .ref x5, .int (I x0 2), .ref x0] (sh, I, J, R) Q)) ∧ (¬ x4 ≤ 0 → (rW γ l m_X5_turnAt 0 0 89 [some (.ref x0), some (.int x1), some (.int x2), some (.int x3), none, some (.ref x5), none] [.int (1 : Int32), .int x2, .ref x5, .int (I x0 2), .ref x0] (sh, I, J, R) Q))) :
    rW γ l m_X5_turnAt 0 0 71 [some (.ref x0), some (.int x1), some (.int x2), some (.int x3), some (.int x4), some (.ref x5), none] [] (sh, I, J, R) Q := by
  by_cases p0 : x4 ≤ 0
  · have t := t.1 p0
    obtain ⟨hf, r, t, q⟩ := t
    exact ⟨hf, r, b_X5_turnAt_71  h_x0 h_x5 (fun _ => t) (fun y0 => absurd p0 y0), q⟩
  · have t := t.2 p0
    obtain ⟨hf, r, t, q⟩ := t
    exact ⟨hf, r, b_X5_turnAt_71  h_x0 h_x5 (fun y0 => absurd y0 p0) (fun _ => t), q⟩
abbrev s_X5_turnAt_89 (γ : rG) (l : Launch) (x0 : Nat) (x1 : Int32) (x2 : Int32) (x3 : Int32) (x5 : Nat) (s0 : Int32) (s1 : Int32) (s2 : Nat) (s3 : Int32) (s4 : Nat) (h : rHeap) (Q : rHeap → Option Value → Prop) : Prop := rW γ l m_X5_turnAt 0 0 89 [some (.ref x0), some (.int x1), some (.int x2), some (.int x3), none, some (.ref x5), none] [.int s0, .int s1, .ref s2, .int s3, .ref s4] h Q
theorem w_X5_turnAt_89 {γ : rG} {l : Launch} {Q : rHeap → Option Value → Prop} {sh : Nat × (Nat → Nat) × (Nat → Nat)} {I : Nat → Nat → Int32} {J : Nat → Nat → Int64} {R : Nat → Nat → Option Nat} {x0 : Nat} {x1 : Int32} {x2 : Int32} {x3 : Int32} {x5 : Nat} {s0 : Int32} {s1 : Int32} {s2 : Nat} {s3 : Int32} {s4 : Nat}
    (h_x0 : At5 sh R x0)
    (h_x5 : At2 sh R x5)
    (h_s2 : At2 sh R s2)
    (h_s4 : At5 sh R s4)
    (t : ∃ (v2 : Int32), rMet γ l m_X2_creasesAt [.ref s2, .int s1, .int s0] (sh, I, J, R) (sh, I, J, R) (some (.int v2)) ∧ (∃ (v4 : Int32), rMet γ l m_X2_turnedBy [.ref x5, .int x2, .int x3] (sh, (up I s4 2 (s3 ||| v2)), J, R) (sh, (up I s4 2 (s3 ||| v2)), J, R) (some (.int v4)) ∧ (∃ (I5 : Nat → Nat → Int32) (v7 : Int32), rMet γ l m_X5_keep [.ref x0, .int x1, .int v4, .int x2, .int (0 : Int32), .int (0 : Int32)] (sh, (up I s4 2 (s3 ||| v2)), J, R) (sh, I5, J, R) (some (.int v7)) ∧ (Q (sh, I5, J, R) (some (.int v7)))))) :
    rW γ l m_X5_turnAt 0 0 89 [some (.ref x0), some (.int x1), some (.int x2), some (.int x3), none, some (.ref x5), none] [.int s0, .int s1, .ref s2, .int s3, .ref s4] (sh, I, J, R) Q := by
  obtain ⟨v2, m1, t⟩ := t
  obtain ⟨v4, m3, t⟩ := t
  obtain ⟨I5, v7, m6, t⟩ := t
  exact ⟨_, _, b_X5_turnAt_89  h_x0 h_x5 h_s2 h_s4 m1 m3 m6 ⟨rfl, rfl⟩, t⟩
abbrev s_X5_cut_0 (γ : rG) (l : Launch) (x0 : Nat) (x1 : Int32) (x2 : Int32) (h : rHeap) (Q : rHeap → Option Value → Prop) : Prop := rW γ l m_X5_cut 0 0 0 [some (.ref x0), some (.int x1), some (.int x2)] [] h Q
theorem w_X5_cut_0 {γ : rG} {l : Launch} {Q : rHeap → Option Value → Prop} {sh : Nat × (Nat → Nat) × (Nat → Nat)} {I : Nat → Nat → Int32} {J : Nat → Nat → Int64} {R : Nat → Nat → Option Nat} {x0 : Nat} {x1 : Int32} {x2 : Int32}
    (h_x0 : At5 sh R x0)
    (t : ((16 : Int32) ≤ (I x0 1) → (Q (sh, I, J, R) (some (.int (-1 : Int32))))) ∧ (¬ (16 : Int32) ≤ (I x0 1) → ((x2 < (1 : Int32) → (Q (sh, I, J, R) (some (.int (-1 : Int32))))) ∧ (¬ x2 < (1 : Int32) → (∃ (b6 : Nat), rMet γ l m_X5_packet [.ref x0] (sh, I, J, R) (sh, I, J, R) (some (.ref b6)) ∧ (At2 sh R b6 ∧ (∃ (v8 : Int32), rMet γ l m_X2_heightOf [.ref b6, .int x1] (sh, I, J, R) (sh, I, J, R) (some (.int v8)) ∧ ((x2 ≤ v8 → (∃ (b11 : Nat), rMet γ l m_X5_packet [.ref x0] (sh, I, J, R) (sh, I, J, R) (some (.ref b11)) ∧ (At2 sh R b11 ∧ (∃ (v13 : Int32), rMet γ l m_X2_highest [.ref b11, .int x1, .int x2] (sh, I, J, R) (sh, I, J, R) (some (.int v13)) ∧ (∃ (I14 : Nat → Nat → Int32), rMet γ l m_X5_raise [.ref x0, .ref (x0 + 1), .int v13] (sh, I, J, R) (sh, I14, J, R) none ∧ (∃ (I16 : Nat → Nat → Int32) (v18 : Int32), rMet γ l m_X5_keepOnPile [.ref x0, .int (2 : Int32), .int x1, .int x2, .int (0 : Int32)] (sh, I14, J, R) (sh, I16, J, R) (some (.int v18)) ∧ (Q (sh, I16, J, R) (some (.int v18))))))))) ∧ (¬ x2 ≤ v8 → (Q (sh, I, J, R) (some (.int (-1 : Int32))))))))))))) :
    rW γ l m_X5_cut 0 0 0 [some (.ref x0), some (.int x1), some (.int x2)] [] (sh, I, J, R) Q := by
  by_cases p0 : (16 : Int32) ≤ (I x0 1)
  · have t := t.1 p0
    exact ⟨_, _, b_X5_cut_0 (b6 := 0) (v8 := 0) (b11 := 0) (v13 := 0) (I14 := I) (I16 := I) (v18 := 0) h_x0 (fun _ => ⟨rfl, rfl⟩) (fun y0 _ => absurd p0 y0) (fun y0 _ => absurd p0 y0) (fun y0 _ => absurd p0 y0) (fun y0 _ => absurd p0 y0) (fun y0 _ _ => absurd p0 y0) (fun y0 _ _ => absurd p0 y0) (fun y0 _ _ => absurd p0 y0) (fun y0 _ _ => absurd p0 y0) (fun y0 _ _ => absurd p0 y0) (fun y0 _ _ => absurd p0 y0) (fun y0 _ _ => absurd p0 y0), t⟩
  · have t := t.2 p0
    by_cases p1 : x2 < (1 : Int32)
    · have t := t.1 p1
      exact ⟨_, _, b_X5_cut_0 (b6 := 0) (v8 := 0) (b11 := 0) (v13 := 0) (I14 := I) (I16 := I) (v18 := 0) h_x0 (fun y0 => absurd y0 p0) (fun _ _ => ⟨rfl, rfl⟩) (fun _ y1 => absurd p1 y1) (fun _ y1 => absurd p1 y1) (fun _ y1 => absurd p1 y1) (fun _ y1 _ => absurd p1 y1) (fun _ y1 _ => absurd p1 y1) (fun _ y1 _ => absurd p1 y1) (fun _ y1 _ => absurd p1 y1) (fun _ y1 _ => absurd p1 y1) (fun _ y1 _ => absurd p1 y1) (fun _ y1 _ => absurd p1 y1), t⟩
    · have t := t.2 p1
      obtain ⟨b6, m5, t⟩ := t
      obtain ⟨h_b6, t⟩ := t
      obtain ⟨v8, m7, t⟩ := t
      by_cases p2 : x2 ≤ v8
      · have t := t.1 p2
        obtain ⟨b11, m10, t⟩ := t
        obtain ⟨h_b11, t⟩ := t
        obtain ⟨v13, m12, t⟩ := t
        obtain ⟨I14, m15, t⟩ := t
        obtain ⟨I16, v18, m17, t⟩ := t
        exact ⟨_, _, b_X5_cut_0  h_x0 (fun y0 => absurd y0 p0) (fun _ y1 => absurd y1 p1) (fun _ _ => m5) (fun _ _ => h_b6) (fun _ _ => m7) (fun _ _ _ => m10) (fun _ _ _ => h_b11) (fun _ _ _ => m12) (fun _ _ _ => m15) (fun _ _ _ => m17) (fun _ _ _ => ⟨rfl, rfl⟩) (fun _ _ y2 => absurd p2 y2), t⟩
      · have t := t.2 p2
        exact ⟨_, _, b_X5_cut_0 (b11 := 0) (v13 := 0) (I14 := I) (I16 := I) (v18 := 0) h_x0 (fun y0 => absurd y0 p0) (fun _ y1 => absurd y1 p1) (fun _ _ => m5) (fun _ _ => h_b6) (fun _ _ => m7) (fun _ _ y2 => absurd y2 p2) (fun _ _ y2 => absurd y2 p2) (fun _ _ y2 => absurd y2 p2) (fun _ _ y2 => absurd y2 p2) (fun _ _ y2 => absurd y2 p2) (fun _ _ y2 => absurd y2 p2) (fun _ _ _ => ⟨rfl, rfl⟩), t⟩
abbrev s_X5_bindByStrip_0 (γ : rG) (l : Launch) (x0 : Nat) (x1 : Int32) (x2 : Int32) (h : rHeap) (Q : rHeap → Option Value → Prop) : Prop := rW γ l m_X5_bindByStrip 0 0 0 [some (.ref x0), some (.int x1), some (.int x2), none] [] h Q
theorem w_X5_bindByStrip_0 {γ : rG} {l : Launch} {Q : rHeap → Option Value → Prop} {sh : Nat × (Nat → Nat) × (Nat → Nat)} {I : Nat → Nat → Int32} {J : Nat → Nat → Int64} {R : Nat → Nat → Option Nat} {x0 : Nat} {x1 : Int32} {x2 : Int32}
    (h_x0 : At5 sh R x0)
    (t : ((16 : Int32) ≤ (I x0 1) → (Q (sh, I, J, R) (some (.int (-1 : Int32))))) ∧ (¬ (16 : Int32) ≤ (I x0 1) → ((x2 < (2 : Int32) → (Q (sh, I, J, R) (some (.int (-1 : Int32))))) ∧ (¬ x2 < (2 : Int32) → (∃ (b6 : Nat), rMet γ l m_X5_packet [.ref x0] (sh, I, J, R) (sh, I, J, R) (some (.ref b6)) ∧ (At2 sh R b6 ∧ (∃ (v8 : Int32), rMet γ l m_X2_heightOf [.ref b6, .int x1] (sh, I, J, R) (sh, I, J, R) (some (.int v8)) ∧ ((x2 ≤ v8 → (∃ (b11 : Nat), rMet γ l m_X5_packet [.ref x0] (sh, I, J, R) (sh, I, J, R) (some (.ref b11)) ∧ (At2 sh R b11 ∧ (∃ (v13 : Int32), rMet γ l m_X2_highest [.ref b11, .int x1, .int x2] (sh, I, J, R) (sh, I, J, R) (some (.int v13)) ∧ (∃ (v15 : Int32), rMet γ l m_X5_slitParts [.ref x0] (sh, I, J, R) (sh, I, J, R) (some (.int v15)) ∧ (((v13 &&& (v15 ^^^ (-1 : Int32))) = 0 → (∃ (I17 : Nat → Nat → Int32) (v19 : Int32), rMet γ l m_X5_keepOnPile [.ref x0, .int (3 : Int32), .int x1, .int x2, .int v13] (sh, I, J, R) (sh, I17, J, R) (some (.int v19)) ∧ (Q (sh, I17, J, R) (some (.int v19))))) ∧ (¬ (v13 &&& (v15 ^^^ (-1 : Int32))) = 0 → (Q (sh, I, J, R) (some (.int (-2 : Int32))))))))))) ∧ (¬ x2 ≤ v8 → (Q (sh, I, J, R) (some (.int (-1 : Int32))))))))))))) :
    rW γ l m_X5_bindByStrip 0 0 0 [some (.ref x0), some (.int x1), some (.int x2), none] [] (sh, I, J, R) Q := by
  by_cases p0 : (16 : Int32) ≤ (I x0 1)
  · have t := t.1 p0
    exact ⟨_, _, b_X5_bindByStrip_0 (b6 := 0) (v8 := 0) (b11 := 0) (v13 := 0) (v15 := 0) (I17 := I) (v19 := 0) h_x0 (fun _ => ⟨rfl, rfl⟩) (fun y0 _ => absurd p0 y0) (fun y0 _ => absurd p0 y0) (fun y0 _ => absurd p0 y0) (fun y0 _ => absurd p0 y0) (fun y0 _ _ => absurd p0 y0) (fun y0 _ _ => absurd p0 y0) (fun y0 _ _ => absurd p0 y0) (fun y0 _ _ => absurd p0 y0) (fun y0 _ _ _ => absurd p0 y0) (fun y0 _ _ _ => absurd p0 y0) (fun y0 _ _ _ => absurd p0 y0) (fun y0 _ _ => absurd p0 y0), t⟩
  · have t := t.2 p0
    by_cases p1 : x2 < (2 : Int32)
    · have t := t.1 p1
      exact ⟨_, _, b_X5_bindByStrip_0 (b6 := 0) (v8 := 0) (b11 := 0) (v13 := 0) (v15 := 0) (I17 := I) (v19 := 0) h_x0 (fun y0 => absurd y0 p0) (fun _ _ => ⟨rfl, rfl⟩) (fun _ y1 => absurd p1 y1) (fun _ y1 => absurd p1 y1) (fun _ y1 => absurd p1 y1) (fun _ y1 _ => absurd p1 y1) (fun _ y1 _ => absurd p1 y1) (fun _ y1 _ => absurd p1 y1) (fun _ y1 _ => absurd p1 y1) (fun _ y1 _ _ => absurd p1 y1) (fun _ y1 _ _ => absurd p1 y1) (fun _ y1 _ _ => absurd p1 y1) (fun _ y1 _ => absurd p1 y1), t⟩
    · have t := t.2 p1
      obtain ⟨b6, m5, t⟩ := t
      obtain ⟨h_b6, t⟩ := t
      obtain ⟨v8, m7, t⟩ := t
      by_cases p2 : x2 ≤ v8
      · have t := t.1 p2
        obtain ⟨b11, m10, t⟩ := t
        obtain ⟨h_b11, t⟩ := t
        obtain ⟨v13, m12, t⟩ := t
        obtain ⟨v15, m14, t⟩ := t
        by_cases p3 : (v13 &&& (v15 ^^^ (-1 : Int32))) = 0
        · have t := t.1 p3
          obtain ⟨I17, v19, m18, t⟩ := t
          exact ⟨_, _, b_X5_bindByStrip_0  h_x0 (fun y0 => absurd y0 p0) (fun _ y1 => absurd y1 p1) (fun _ _ => m5) (fun _ _ => h_b6) (fun _ _ => m7) (fun _ _ _ => m10) (fun _ _ _ => h_b11) (fun _ _ _ => m12) (fun _ _ _ => m14) (fun _ _ _ _ => m18) (fun _ _ _ _ => ⟨rfl, rfl⟩) (fun _ _ _ y3 => absurd p3 y3) (fun _ _ y2 => absurd p2 y2), t⟩
        · have t := t.2 p3
          exact ⟨_, _, b_X5_bindByStrip_0 (I17 := I) (v19 := 0) h_x0 (fun y0 => absurd y0 p0) (fun _ y1 => absurd y1 p1) (fun _ _ => m5) (fun _ _ => h_b6) (fun _ _ => m7) (fun _ _ _ => m10) (fun _ _ _ => h_b11) (fun _ _ _ => m12) (fun _ _ _ => m14) (fun _ _ _ y3 => absurd y3 p3) (fun _ _ _ y3 => absurd y3 p3) (fun _ _ _ _ => ⟨rfl, rfl⟩) (fun _ _ y2 => absurd p2 y2), t⟩
      · have t := t.2 p2
        exact ⟨_, _, b_X5_bindByStrip_0 (b11 := 0) (v13 := 0) (v15 := 0) (I17 := I) (v19 := 0) h_x0 (fun y0 => absurd y0 p0) (fun _ y1 => absurd y1 p1) (fun _ _ => m5) (fun _ _ => h_b6) (fun _ _ => m7) (fun _ _ y2 => absurd y2 p2) (fun _ _ y2 => absurd y2 p2) (fun _ _ y2 => absurd y2 p2) (fun _ _ y2 => absurd y2 p2) (fun _ _ y2 _ => absurd y2 p2) (fun _ _ y2 _ => absurd y2 p2) (fun _ _ y2 _ => absurd y2 p2) (fun _ _ _ => ⟨rfl, rfl⟩), t⟩
abbrev s_X5_bindByWax_0 (γ : rG) (l : Launch) (x0 : Nat) (x1 : Int32) (h : rHeap) (Q : rHeap → Option Value → Prop) : Prop := rW γ l m_X5_bindByWax 0 0 0 [some (.ref x0), some (.int x1), none] [] h Q
theorem w_X5_bindByWax_0 {γ : rG} {l : Launch} {Q : rHeap → Option Value → Prop} {sh : Nat × (Nat → Nat) × (Nat → Nat)} {I : Nat → Nat → Int32} {J : Nat → Nat → Int64} {R : Nat → Nat → Option Nat} {x0 : Nat} {x1 : Int32}
    (h_x0 : At5 sh R x0)
    (t : ((16 : Int32) ≤ (I x0 1) → (Q (sh, I, J, R) (some (.int (-1 : Int32))))) ∧ (¬ (16 : Int32) ≤ (I x0 1) → (∃ (b4 : Nat), rMet γ l m_X5_packet [.ref x0] (sh, I, J, R) (sh, I, J, R) (some (.ref b4)) ∧ (At2 sh R b4 ∧ (∃ (v6 : Int32), rMet γ l m_X2_heightOf [.ref b4, .int x1] (sh, I, J, R) (sh, I, J, R) (some (.int v6)) ∧ (((2 : Int32) ≤ v6 → (∃ (b9 : Nat), rMet γ l m_X5_packet [.ref x0] (sh, I, J, R) (sh, I, J, R) (some (.ref b9)) ∧ (At2 sh R b9 ∧ (∃ (v11 : Int32), rMet γ l m_X2_highest [.ref b9, .int x1, .int (2 : Int32)] (sh, I, J, R) (sh, I, J, R) (some (.int v11)) ∧ (∃ (I12 : Nat → Nat → Int32), rMet γ l m_X5_raise [.ref x0, .ref (x0 + 2), .int v11] (sh, I, J, R) (sh, I12, J, R) none ∧ (∃ (I14 : Nat → Nat → Int32) (v16 : Int32), rMet γ l m_X5_keepOnPile [.ref x0, .int (4 : Int32), .int x1, .int (2 : Int32), .int v11] (sh, I12, J, R) (sh, I14, J, R) (some (.int v16)) ∧ (Q (sh, I14, J, R) (some (.int v16))))))))) ∧ (¬ (2 : Int32) ≤ v6 → (Q (sh, I, J, R) (some (.int (-1 : Int32))))))))))) :
    rW γ l m_X5_bindByWax 0 0 0 [some (.ref x0), some (.int x1), none] [] (sh, I, J, R) Q := by
  by_cases p0 : (16 : Int32) ≤ (I x0 1)
  · have t := t.1 p0
    exact ⟨_, _, b_X5_bindByWax_0 (b4 := 0) (v6 := 0) (b9 := 0) (v11 := 0) (I12 := I) (I14 := I) (v16 := 0) h_x0 (fun _ => ⟨rfl, rfl⟩) (fun y0 => absurd p0 y0) (fun y0 => absurd p0 y0) (fun y0 => absurd p0 y0) (fun y0 _ => absurd p0 y0) (fun y0 _ => absurd p0 y0) (fun y0 _ => absurd p0 y0) (fun y0 _ => absurd p0 y0) (fun y0 _ => absurd p0 y0) (fun y0 _ => absurd p0 y0) (fun y0 _ => absurd p0 y0), t⟩
  · have t := t.2 p0
    obtain ⟨b4, m3, t⟩ := t
    obtain ⟨h_b4, t⟩ := t
    obtain ⟨v6, m5, t⟩ := t
    by_cases p1 : (2 : Int32) ≤ v6
    · have t := t.1 p1
      obtain ⟨b9, m8, t⟩ := t
      obtain ⟨h_b9, t⟩ := t
      obtain ⟨v11, m10, t⟩ := t
      obtain ⟨I12, m13, t⟩ := t
      obtain ⟨I14, v16, m15, t⟩ := t
      exact ⟨_, _, b_X5_bindByWax_0  h_x0 (fun y0 => absurd y0 p0) (fun _ => m3) (fun _ => h_b4) (fun _ => m5) (fun _ _ => m8) (fun _ _ => h_b9) (fun _ _ => m10) (fun _ _ => m13) (fun _ _ => m15) (fun _ _ => ⟨rfl, rfl⟩) (fun _ y1 => absurd p1 y1), t⟩
    · have t := t.2 p1
      exact ⟨_, _, b_X5_bindByWax_0 (b9 := 0) (v11 := 0) (I12 := I) (I14 := I) (v16 := 0) h_x0 (fun y0 => absurd y0 p0) (fun _ => m3) (fun _ => h_b4) (fun _ => m5) (fun _ y1 => absurd y1 p1) (fun _ y1 => absurd y1 p1) (fun _ y1 => absurd y1 p1) (fun _ y1 => absurd y1 p1) (fun _ y1 => absurd y1 p1) (fun _ y1 => absurd y1 p1) (fun _ _ => ⟨rfl, rfl⟩), t⟩
abbrev s_X5_dirty_0 (γ : rG) (l : Launch) (x0 : Nat) (h : rHeap) (Q : rHeap → Option Value → Prop) : Prop := rW γ l m_X5_dirty 0 0 0 [some (.ref x0)] [] h Q
theorem w_X5_dirty_0 {γ : rG} {l : Launch} {Q : rHeap → Option Value → Prop} {sh : Nat × (Nat → Nat) × (Nat → Nat)} {I : Nat → Nat → Int32} {J : Nat → Nat → Int64} {R : Nat → Nat → Option Nat} {x0 : Nat}
    (h_x0 : At5 sh R x0)
    (t : ((I x0 1) < (16 : Int32) → (∃ (b3 : Nat), rMet γ l m_X5_packet [.ref x0] (sh, I, J, R) (sh, I, J, R) (some (.ref b3)) ∧ (At2 sh R b3 ∧ (∃ (v5 : Int32), rMet γ l m_X2_outerFaces [.ref b3] (sh, I, J, R) (sh, I, J, R) (some (.int v5)) ∧ (vp_in ((((up I x0 3 (((I x0 3) ||| v5))) x0 1) + (1 : Int32))) 17 ∧ (∃ (b7 : Nat), R (x0 + 3) ((((up I x0 3 (((I x0 3) ||| v5))) x0 1) + (1 : Int32))).toNatClampNeg = some b7 ∧ (At2 sh R b7 ∧ (∃ (b10 : Nat), rMet γ l m_X5_packet [.ref x0] (sh, (up I x0 3 (((I x0 3) ||| v5))), J, R) (sh, (up I x0 3 (((I x0 3) ||| v5))), J, R) (some (.ref b10)) ∧ (At2 sh R b10 ∧ (∃ (I11 : Nat → Nat → Int32), rMet γ l m_X2_copy [.ref b7, .ref b10] (sh, (up I x0 3 (((I x0 3) ||| v5))), J, R) (sh, I11, J, R) none ∧ (∃ (I13 : Nat → Nat → Int32) (v15 : Int32), rMet γ l m_X5_keep [.ref x0, .int (5 : Int32), .int (0 : Int32), .int (0 : Int32), .int (0 : Int32), .int (0 : Int32)] (sh, I11, J, R) (sh, I13, J, R) (some (.int v15)) ∧ (Q (sh, I13, J, R) (some (.int v15)))))))))))))) ∧ (¬ (I x0 1) < (16 : Int32) → (Q (sh, I, J, R) (some (.int (-1 : Int32)))))) :
    rW γ l m_X5_dirty 0 0 0 [some (.ref x0)] [] (sh, I, J, R) Q := by
  by_cases p0 : (I x0 1) < (16 : Int32)
  · have t := t.1 p0
    obtain ⟨b3, m2, t⟩ := t
    obtain ⟨h_b3, t⟩ := t
    obtain ⟨v5, m4, t⟩ := t
    obtain ⟨b6, t⟩ := t
    obtain ⟨b7, e8, t⟩ := t
    obtain ⟨h_b7, t⟩ := t
    obtain ⟨b10, m9, t⟩ := t
    obtain ⟨h_b10, t⟩ := t
    obtain ⟨I11, m12, t⟩ := t
    obtain ⟨I13, v15, m14, t⟩ := t
    exact ⟨_, _, b_X5_dirty_0  h_x0 (fun _ => m2) (fun _ => h_b3) (fun _ => m4) (fun _ => b6) (fun _ => e8) (fun _ => h_b7) (fun _ => m9) (fun _ => h_b10) (fun _ => m12) (fun _ => m14) (fun _ => ⟨rfl, rfl⟩) (fun y0 => absurd p0 y0), t⟩
  · have t := t.2 p0
    exact ⟨_, _, b_X5_dirty_0 (b3 := 0) (v5 := 0) (b7 := 0) (b10 := 0) (I11 := I) (I13 := I) (v15 := 0) h_x0 (fun y0 => absurd y0 p0) (fun y0 => absurd y0 p0) (fun y0 => absurd y0 p0) (fun y0 => absurd y0 p0) (fun y0 => absurd y0 p0) (fun y0 => absurd y0 p0) (fun y0 => absurd y0 p0) (fun y0 => absurd y0 p0) (fun y0 => absurd y0 p0) (fun y0 => absurd y0 p0) (fun y0 => absurd y0 p0) (fun _ => ⟨rfl, rfl⟩), t⟩
abbrev s_X5_slitParts_0 (γ : rG) (l : Launch) (x0 : Nat) (h : rHeap) (Q : rHeap → Option Value → Prop) : Prop := rW γ l m_X5_slitParts 0 0 0 [some (.ref x0), none, none] [] h Q
theorem w_X5_slitParts_0 {γ : rG} {l : Launch} {Q : rHeap → Option Value → Prop} {sh : Nat × (Nat → Nat) × (Nat → Nat)} {I : Nat → Nat → Int32} {J : Nat → Nat → Int64} {R : Nat → Nat → Option Nat} {x0 : Nat}
    (h_x0 : At5 sh R x0)
    (t : rW γ l m_X5_slitParts 0 0 4 [some (.ref x0), some (.int (0 : Int32)), some (.int (0 : Int32))] [] (sh, I, J, R) Q) :
    rW γ l m_X5_slitParts 0 0 0 [some (.ref x0), none, none] [] (sh, I, J, R) Q := by
  obtain ⟨hf, r, t, q⟩ := t
  exact ⟨hf, r, b_X5_slitParts_0  h_x0 t, q⟩
abbrev s_X5_slitParts_4 (γ : rG) (l : Launch) (x0 : Nat) (x1 : Int32) (x2 : Int32) (h : rHeap) (Q : rHeap → Option Value → Prop) : Prop := rW γ l m_X5_slitParts 0 0 4 [some (.ref x0), some (.int x1), some (.int x2)] [] h Q
theorem w_X5_slitParts_4 {γ : rG} {l : Launch} {Q : rHeap → Option Value → Prop} {sh : Nat × (Nat → Nat) × (Nat → Nat)} {I : Nat → Nat → Int32} {J : Nat → Nat → Int64} {R : Nat → Nat → Option Nat} {x0 : Nat} {x1 : Int32} {x2 : Int32}
    (h_x0 : At5 sh R x0)
    (t : ((I x0 0) ≤ x2 → (Q (sh, I, J, R) (some (.int x1)))) ∧ (¬ (I x0 0) ≤ x2 → (vp_in x2 8 ∧ (((I (x0 + 1) x2.toNatClampNeg) ≤ 0 → (rW γ l m_X5_slitParts 0 0 4 [some (.ref x0), some (.int x1), some (.int (x2 + (1 : Int32)))] [] (sh, I, J, R) Q)) ∧ (¬ (I (x0 + 1) x2.toNatClampNeg) ≤ 0 → (rW γ l m_X5_slitParts 0 0 4 [some (.ref x0), some (.int (x1 ||| ((1 : Int32) <<< (x2 &&& 31)))), some (.int (x2 + (1 : Int32)))] [] (sh, I, J, R) Q)))))) :
    rW γ l m_X5_slitParts 0 0 4 [some (.ref x0), some (.int x1), some (.int x2)] [] (sh, I, J, R) Q := by
  by_cases p0 : (I x0 0) ≤ x2
  · have t := t.1 p0
    exact ⟨_, _, b_X5_slitParts_4  h_x0 (fun _ => ⟨rfl, rfl⟩) (fun y0 => absurd p0 y0) (fun y0 _ => absurd p0 y0) (fun y0 _ => absurd p0 y0), t⟩
  · have t := t.2 p0
    obtain ⟨b3, t⟩ := t
    by_cases p1 : (I (x0 + 1) x2.toNatClampNeg) ≤ 0
    · have t := t.1 p1
      obtain ⟨hf, r, t, q⟩ := t
      exact ⟨hf, r, b_X5_slitParts_4  h_x0 (fun y0 => absurd y0 p0) (fun _ => b3) (fun _ _ => t) (fun _ y1 => absurd p1 y1), q⟩
    · have t := t.2 p1
      obtain ⟨hf, r, t, q⟩ := t
      exact ⟨hf, r, b_X5_slitParts_4  h_x0 (fun y0 => absurd y0 p0) (fun _ => b3) (fun _ y1 => absurd y1 p1) (fun _ _ => t), q⟩
abbrev s_X5_raise_0 (γ : rG) (l : Launch) (x0 : Nat) (x1 : Nat) (x2 : Int32) (h : rHeap) (Q : rHeap → Option Value → Prop) : Prop := rW γ l m_X5_raise 0 0 0 [some (.ref x0), some (.ref x1), some (.int x2), none] [] h Q
theorem w_X5_raise_0 {γ : rG} {l : Launch} {Q : rHeap → Option Value → Prop} {sh : Nat × (Nat → Nat) × (Nat → Nat)} {I : Nat → Nat → Int32} {J : Nat → Nat → Int64} {R : Nat → Nat → Option Nat} {x0 : Nat} {x1 : Nat} {n_x1 : Nat} {x2 : Int32}
    (h_x0 : At5 sh R x0)
    (h_x1 : rK sh x1 11)
    (g_x1 : sh.2.2 x1 = n_x1)
    (t : rW γ l m_X5_raise 0 0 2 [some (.ref x0), some (.ref x1), some (.int x2), some (.int (0 : Int32))] [] (sh, I, J, R) Q) :
    rW γ l m_X5_raise 0 0 0 [some (.ref x0), some (.ref x1), some (.int x2), none] [] (sh, I, J, R) Q := by
  obtain ⟨hf, r, t, q⟩ := t
  exact ⟨hf, r, b_X5_raise_0  h_x0 h_x1 g_x1 t, q⟩
abbrev s_X5_raise_2 (γ : rG) (l : Launch) (x0 : Nat) (x1 : Nat) (x2 : Int32) (x3 : Int32) (h : rHeap) (Q : rHeap → Option Value → Prop) : Prop := rW γ l m_X5_raise 0 0 2 [some (.ref x0), some (.ref x1), some (.int x2), some (.int x3)] [] h Q
theorem w_X5_raise_2 {γ : rG} {l : Launch} {Q : rHeap → Option Value → Prop} {sh : Nat × (Nat → Nat) × (Nat → Nat)} {I : Nat → Nat → Int32} {J : Nat → Nat → Int64} {R : Nat → Nat → Option Nat} {x0 : Nat} {x1 : Nat} {n_x1 : Nat} {x2 : Int32} {x3 : Int32}
    (h_x0 : At5 sh R x0)
    (h_x1 : rK sh x1 11)
    (g_x1 : sh.2.2 x1 = n_x1)
    (t : ((I x0 0) ≤ x3 → (Q (sh, I, J, R) (none))) ∧ (¬ (I x0 0) ≤ x3 → (vp_in x3 n_x1 ∧ (vp_in x3 n_x1 ∧ (rW γ l m_X5_raise 0 0 2 [some (.ref x0), some (.ref x1), some (.int x2), some (.int (x3 + (1 : Int32)))] [] (sh, (up I x1 x3.toNatClampNeg (((I x1 x3.toNatClampNeg) + ((x2 >>> (x3 &&& 31)) &&& (1 : Int32))))), J, R) Q))))) :
    rW γ l m_X5_raise 0 0 2 [some (.ref x0), some (.ref x1), some (.int x2), some (.int x3)] [] (sh, I, J, R) Q := by
  by_cases p0 : (I x0 0) ≤ x3
  · have t := t.1 p0
    exact ⟨_, _, b_X5_raise_2  h_x0 h_x1 g_x1 (fun _ => ⟨rfl, rfl⟩) (fun y0 => absurd p0 y0) (fun y0 => absurd p0 y0) (fun y0 => absurd p0 y0), t⟩
  · have t := t.2 p0
    obtain ⟨b3, t⟩ := t
    obtain ⟨b4, t⟩ := t
    obtain ⟨hf, r, t, q⟩ := t
    exact ⟨hf, r, b_X5_raise_2  h_x0 h_x1 g_x1 (fun y0 => absurd y0 p0) (fun _ => b3) (fun _ => b4) (fun _ => t), q⟩
abbrev s_X5_keepOnPile_0 (γ : rG) (l : Launch) (x0 : Nat) (x1 : Int32) (x2 : Int32) (x3 : Int32) (x4 : Int32) (h : rHeap) (Q : rHeap → Option Value → Prop) : Prop := rW γ l m_X5_keepOnPile 0 0 0 [some (.ref x0), some (.int x1), some (.int x2), some (.int x3), some (.int x4)] [] h Q
theorem w_X5_keepOnPile_0 {γ : rG} {l : Launch} {Q : rHeap → Option Value → Prop} {sh : Nat × (Nat → Nat) × (Nat → Nat)} {I : Nat → Nat → Int32} {J : Nat → Nat → Int64} {R : Nat → Nat → Option Nat} {x0 : Nat} {x1 : Int32} {x2 : Int32} {x3 : Int32} {x4 : Int32}
    (h_x0 : At5 sh R x0)
    (t : vp_in (((I x0 1) + (1 : Int32))) 17 ∧ (∃ (b2 : Nat), R (x0 + 3) (((I x0 1) + (1 : Int32))).toNatClampNeg = some b2 ∧ (At2 sh R b2 ∧ (∃ (b5 : Nat), rMet γ l m_X5_packet [.ref x0] (sh, I, J, R) (sh, I, J, R) (some (.ref b5)) ∧ (At2 sh R b5 ∧ (∃ (I6 : Nat → Nat → Int32), rMet γ l m_X2_copy [.ref b2, .ref b5] (sh, I, J, R) (sh, I6, J, R) none ∧ (∃ (b9 : Nat), rMet γ l m_X5_packet [.ref x0] (sh, I6, J, R) (sh, I6, J, R) (some (.ref b9)) ∧ (At2 sh R b9 ∧ (∃ (v11 : Int32), rMet γ l m_X2_heightOf [.ref b9, .int x2] (sh, I6, J, R) (sh, I6, J, R) (some (.int v11)) ∧ (∃ (I12 : Nat → Nat → Int32) (v14 : Int32), rMet γ l m_X5_keep [.ref x0, .int x1, .int x3, .int x2, .int (v11 - x3), .int x4] (sh, I6, J, R) (sh, I12, J, R) (some (.int v14)) ∧ (Q (sh, I12, J, R) (some (.int v14))))))))))))) :
    rW γ l m_X5_keepOnPile 0 0 0 [some (.ref x0), some (.int x1), some (.int x2), some (.int x3), some (.int x4)] [] (sh, I, J, R) Q := by
  obtain ⟨b1, t⟩ := t
  obtain ⟨b2, e3, t⟩ := t
  obtain ⟨h_b2, t⟩ := t
  obtain ⟨b5, m4, t⟩ := t
  obtain ⟨h_b5, t⟩ := t
  obtain ⟨I6, m7, t⟩ := t
  obtain ⟨b9, m8, t⟩ := t
  obtain ⟨h_b9, t⟩ := t
  obtain ⟨v11, m10, t⟩ := t
  obtain ⟨I12, v14, m13, t⟩ := t
  exact ⟨_, _, b_X5_keepOnPile_0  h_x0 b1 e3 h_b2 m4 h_b5 m7 m8 h_b9 m10 m13 ⟨rfl, rfl⟩, t⟩
abbrev s_X5_keep_0 (γ : rG) (l : Launch) (x0 : Nat) (x1 : Int32) (x2 : Int32) (x3 : Int32) (x4 : Int32) (x5 : Int32) (h : rHeap) (Q : rHeap → Option Value → Prop) : Prop := rW γ l m_X5_keep 0 0 0 [some (.ref x0), some (.int x1), some (.int x2), some (.int x3), some (.int x4), some (.int x5)] [] h Q
theorem w_X5_keep_0 {γ : rG} {l : Launch} {Q : rHeap → Option Value → Prop} {sh : Nat × (Nat → Nat) × (Nat → Nat)} {I : Nat → Nat → Int32} {J : Nat → Nat → Int64} {R : Nat → Nat → Option Nat} {x0 : Nat} {x1 : Int32} {x2 : Int32} {x3 : Int32} {x4 : Int32} {x5 : Int32}
    (h_x0 : At5 sh R x0)
    (t : vp_in (I x0 1) 16 ∧ (vp_in (((up I (x0 + 4) (I x0 1).toNatClampNeg x1) x0 1)) 16 ∧ (vp_in (((up (up I (x0 + 4) (I x0 1).toNatClampNeg x1) (x0 + 5) (((up I (x0 + 4) (I x0 1).toNatClampNeg x1) x0 1)).toNatClampNeg x2) x0 1)) 16 ∧ (vp_in (((up (up (up I (x0 + 4) (I x0 1).toNatClampNeg x1) (x0 + 5) (((up I (x0 + 4) (I x0 1).toNatClampNeg x1) x0 1)).toNatClampNeg x2) (x0 + 6) (((up (up I (x0 + 4) (I x0 1).toNatClampNeg x1) (x0 + 5) (((up I (x0 + 4) (I x0 1).toNatClampNeg x1) x0 1)).toNatClampNeg x2) x0 1)).toNatClampNeg x3) x0 1)) 16 ∧ (vp_in (((up (up (up (up I (x0 + 4) (I x0 1).toNatClampNeg x1) (x0 + 5) (((up I (x0 + 4) (I x0 1).toNatClampNeg x1) x0 1)).toNatClampNeg x2) (x0 + 6) (((up (up I (x0 + 4) (I x0 1).toNatClampNeg x1) (x0 + 5) (((up I (x0 + 4) (I x0 1).toNatClampNeg x1) x0 1)).toNatClampNeg x2) x0 1)).toNatClampNeg x3) (x0 + 7) (((up (up (up I (x0 + 4) (I x0 1).toNatClampNeg x1) (x0 + 5) (((up I (x0 + 4) (I x0 1).toNatClampNeg x1) x0 1)).toNatClampNeg x2) (x0 + 6) (((up (up I (x0 + 4) (I x0 1).toNatClampNeg x1) (x0 + 5) (((up I (x0 + 4) (I x0 1).toNatClampNeg x1) x0 1)).toNatClampNeg x2) x0 1)).toNatClampNeg x3) x0 1)).toNatClampNeg x4) x0 1)) 16 ∧ (Q (sh, (up (up (up (up (up (up I (x0 + 4) (I x0 1).toNatClampNeg x1) (x0 + 5) (((up I (x0 + 4) (I x0 1).toNatClampNeg x1) x0 1)).toNatClampNeg x2) (x0 + 6) (((up (up I (x0 + 4) (I x0 1).toNatClampNeg x1) (x0 + 5) (((up I (x0 + 4) (I x0 1).toNatClampNeg x1) x0 1)).toNatClampNeg x2) x0 1)).toNatClampNeg x3) (x0 + 7) (((up (up (up I (x0 + 4) (I x0 1).toNatClampNeg x1) (x0 + 5) (((up I (x0 + 4) (I x0 1).toNatClampNeg x1) x0 1)).toNatClampNeg x2) (x0 + 6) (((up (up I (x0 + 4) (I x0 1).toNatClampNeg x1) (x0 + 5) (((up I (x0 + 4) (I x0 1).toNatClampNeg x1) x0 1)).toNatClampNeg x2) x0 1)).toNatClampNeg x3) x0 1)).toNatClampNeg x4) (x0 + 8) (((up (up (up (up I (x0 + 4) (I x0 1).toNatClampNeg x1) (x0 + 5) (((up I (x0 + 4) (I x0 1).toNatClampNeg x1) x0 1)).toNatClampNeg x2) (x0 + 6) (((up (up I (x0 + 4) (I x0 1).toNatClampNeg x1) (x0 + 5) (((up I (x0 + 4) (I x0 1).toNatClampNeg x1) x0 1)).toNatClampNeg x2) x0 1)).toNatClampNeg x3) (x0 + 7) (((up (up (up I (x0 + 4) (I x0 1).toNatClampNeg x1) (x0 + 5) (((up I (x0 + 4) (I x0 1).toNatClampNeg x1) x0 1)).toNatClampNeg x2) (x0 + 6) (((up (up I (x0 + 4) (I x0 1).toNatClampNeg x1) (x0 + 5) (((up I (x0 + 4) (I x0 1).toNatClampNeg x1) x0 1)).toNatClampNeg x2) x0 1)).toNatClampNeg x3) x0 1)).toNatClampNeg x4) x0 1)).toNatClampNeg x5) x0 1 ((((up (up (up (up (up I (x0 + 4) (I x0 1).toNatClampNeg x1) (x0 + 5) (((up I (x0 + 4) (I x0 1).toNatClampNeg x1) x0 1)).toNatClampNeg x2) (x0 + 6) (((up (up I (x0 + 4) (I x0 1).toNatClampNeg x1) (x0 + 5) (((up I (x0 + 4) (I x0 1).toNatClampNeg x1) x0 1)).toNatClampNeg x2) x0 1)).toNatClampNeg x3) (x0 + 7) (((up (up (up I (x0 + 4) (I x0 1).toNatClampNeg x1) (x0 + 5) (((up I (x0 + 4) (I x0 1).toNatClampNeg x1) x0 1)).toNatClampNeg x2) (x0 + 6) (((up (up I (x0 + 4) (I x0 1).toNatClampNeg x1) (x0 + 5) (((up I (x0 + 4) (I x0 1).toNatClampNeg x1) x0 1)).toNatClampNeg x2) x0 1)).toNatClampNeg x3) x0 1)).toNatClampNeg x4) (x0 + 8) (((up (up (up (up I (x0 + 4) (I x0 1).toNatClampNeg x1) (x0 + 5) (((up I (x0 + 4) (I x0 1).toNatClampNeg x1) x0 1)).toNatClampNeg x2) (x0 + 6) (((up (up I (x0 + 4) (I x0 1).toNatClampNeg x1) (x0 + 5) (((up I (x0 + 4) (I x0 1).toNatClampNeg x1) x0 1)).toNatClampNeg x2) x0 1)).toNatClampNeg x3) (x0 + 7) (((up (up (up I (x0 + 4) (I x0 1).toNatClampNeg x1) (x0 + 5) (((up I (x0 + 4) (I x0 1).toNatClampNeg x1) x0 1)).toNatClampNeg x2) (x0 + 6) (((up (up I (x0 + 4) (I x0 1).toNatClampNeg x1) (x0 + 5) (((up I (x0 + 4) (I x0 1).toNatClampNeg x1) x0 1)).toNatClampNeg x2) x0 1)).toNatClampNeg x3) x0 1)).toNatClampNeg x4) x0 1)).toNatClampNeg x5) x0 1) + (1 : Int32)))), J, R) (some (.int ((((up (up (up (up (up (up I (x0 + 4) (I x0 1).toNatClampNeg x1) (x0 + 5) (((up I (x0 + 4) (I x0 1).toNatClampNeg x1) x0 1)).toNatClampNeg x2) (x0 + 6) (((up (up I (x0 + 4) (I x0 1).toNatClampNeg x1) (x0 + 5) (((up I (x0 + 4) (I x0 1).toNatClampNeg x1) x0 1)).toNatClampNeg x2) x0 1)).toNatClampNeg x3) (x0 + 7) (((up (up (up I (x0 + 4) (I x0 1).toNatClampNeg x1) (x0 + 5) (((up I (x0 + 4) (I x0 1).toNatClampNeg x1) x0 1)).toNatClampNeg x2) (x0 + 6) (((up (up I (x0 + 4) (I x0 1).toNatClampNeg x1) (x0 + 5) (((up I (x0 + 4) (I x0 1).toNatClampNeg x1) x0 1)).toNatClampNeg x2) x0 1)).toNatClampNeg x3) x0 1)).toNatClampNeg x4) (x0 + 8) (((up (up (up (up I (x0 + 4) (I x0 1).toNatClampNeg x1) (x0 + 5) (((up I (x0 + 4) (I x0 1).toNatClampNeg x1) x0 1)).toNatClampNeg x2) (x0 + 6) (((up (up I (x0 + 4) (I x0 1).toNatClampNeg x1) (x0 + 5) (((up I (x0 + 4) (I x0 1).toNatClampNeg x1) x0 1)).toNatClampNeg x2) x0 1)).toNatClampNeg x3) (x0 + 7) (((up (up (up I (x0 + 4) (I x0 1).toNatClampNeg x1) (x0 + 5) (((up I (x0 + 4) (I x0 1).toNatClampNeg x1) x0 1)).toNatClampNeg x2) (x0 + 6) (((up (up I (x0 + 4) (I x0 1).toNatClampNeg x1) (x0 + 5) (((up I (x0 + 4) (I x0 1).toNatClampNeg x1) x0 1)).toNatClampNeg x2) x0 1)).toNatClampNeg x3) x0 1)).toNatClampNeg x4) x0 1)).toNatClampNeg x5) x0 1 ((((up (up (up (up (up I (x0 + 4) (I x0 1).toNatClampNeg x1) (x0 + 5) (((up I (x0 + 4) (I x0 1).toNatClampNeg x1) x0 1)).toNatClampNeg x2) (x0 + 6) (((up (up I (x0 + 4) (I x0 1).toNatClampNeg x1) (x0 + 5) (((up I (x0 + 4) (I x0 1).toNatClampNeg x1) x0 1)).toNatClampNeg x2) x0 1)).toNatClampNeg x3) (x0 + 7) (((up (up (up I (x0 + 4) (I x0 1).toNatClampNeg x1) (x0 + 5) (((up I (x0 + 4) (I x0 1).toNatClampNeg x1) x0 1)).toNatClampNeg x2) (x0 + 6) (((up (up I (x0 + 4) (I x0 1).toNatClampNeg x1) (x0 + 5) (((up I (x0 + 4) (I x0 1).toNatClampNeg x1) x0 1)).toNatClampNeg x2) x0 1)).toNatClampNeg x3) x0 1)).toNatClampNeg x4) (x0 + 8) (((up (up (up (up I (x0 + 4) (I x0 1).toNatClampNeg x1) (x0 + 5) (((up I (x0 + 4) (I x0 1).toNatClampNeg x1) x0 1)).toNatClampNeg x2) (x0 + 6) (((up (up I (x0 + 4) (I x0 1).toNatClampNeg x1) (x0 + 5) (((up I (x0 + 4) (I x0 1).toNatClampNeg x1) x0 1)).toNatClampNeg x2) x0 1)).toNatClampNeg x3) (x0 + 7) (((up (up (up I (x0 + 4) (I x0 1).toNatClampNeg x1) (x0 + 5) (((up I (x0 + 4) (I x0 1).toNatClampNeg x1) x0 1)).toNatClampNeg x2) (x0 + 6) (((up (up I (x0 + 4) (I x0 1).toNatClampNeg x1) (x0 + 5) (((up I (x0 + 4) (I x0 1).toNatClampNeg x1) x0 1)).toNatClampNeg x2) x0 1)).toNatClampNeg x3) x0 1)).toNatClampNeg x4) x0 1)).toNatClampNeg x5) x0 1) + (1 : Int32)))) x0 1) - (1 : Int32))))))))))) :
    rW γ l m_X5_keep 0 0 0 [some (.ref x0), some (.int x1), some (.int x2), some (.int x3), some (.int x4), some (.int x5)] [] (sh, I, J, R) Q := by
  obtain ⟨b1, t⟩ := t
  obtain ⟨b2, t⟩ := t
  obtain ⟨b3, t⟩ := t
  obtain ⟨b4, t⟩ := t
  obtain ⟨b5, t⟩ := t
  exact ⟨_, _, b_X5_keep_0  h_x0 b1 b2 b3 b4 b5 ⟨rfl, rfl⟩, t⟩
abbrev s_X5_harmOf_0 (γ : rG) (l : Launch) (x0 : Nat) (x1 : Int32) (x2 : Nat) (h : rHeap) (Q : rHeap → Option Value → Prop) : Prop := rW γ l m_X5_harmOf 0 0 0 [some (.ref x0), some (.int x1), some (.ref x2), none] [] h Q
theorem w_X5_harmOf_0 {γ : rG} {l : Launch} {Q : rHeap → Option Value → Prop} {sh : Nat × (Nat → Nat) × (Nat → Nat)} {I : Nat → Nat → Int32} {J : Nat → Nat → Int64} {R : Nat → Nat → Option Nat} {x0 : Nat} {x1 : Int32} {x2 : Nat}
    (h_x0 : At5 sh R x0)
    (h_x2 : At3 sh R x2)
    (t : ∃ (I1 : Nat → Nat → Int32) (v3 : Int32), rMet γ l m_X5_harmRule [.ref x0, .int x1, .ref x2] (sh, I, J, R) (sh, I1, J, R) (some (.int v3)) ∧ ((v3 = (-1 : Int32) → (vp_in x1 16 ∧ (((I1 (x0 + 4) x1.toNatClampNeg) = (3 : Int32) → (Q (sh, I1, J, R) (some (.int (10 : Int32))))) ∧ (¬ (I1 (x0 + 4) x1.toNatClampNeg) = (3 : Int32) → (vp_in x1 16 ∧ (((I1 (x0 + 4) x1.toNatClampNeg) = (4 : Int32) → (Q (sh, I1, J, R) (some (.int (10 : Int32))))) ∧ (¬ (I1 (x0 + 4) x1.toNatClampNeg) = (4 : Int32) → (Q (sh, I1, J, R) (some (.int (0 : Int32))))))))))) ∧ (¬ v3 = (-1 : Int32) → (∃ (I12 : Nat → Nat → Int32) (v14 : Int32), rMet γ l m_X3_worth [.ref x2, .int v3] (sh, I1, J, R) (sh, I12, J, R) (some (.int v14)) ∧ (Q (sh, I12, J, R) (some (.int v14))))))) :
    rW γ l m_X5_harmOf 0 0 0 [some (.ref x0), some (.int x1), some (.ref x2), none] [] (sh, I, J, R) Q := by
  obtain ⟨I1, v3, m2, t⟩ := t
  by_cases p0 : v3 = (-1 : Int32)
  · have t := t.1 p0
    obtain ⟨b5, t⟩ := t
    by_cases p1 : (I1 (x0 + 4) x1.toNatClampNeg) = (3 : Int32)
    · have t := t.1 p1
      exact ⟨_, _, b_X5_harmOf_0 (I12 := I) (v14 := 0) h_x0 h_x2 m2 (fun _ => b5) (fun _ _ => ⟨rfl, rfl⟩) (fun _ y1 => absurd p1 y1) (fun _ y1 _ => absurd p1 y1) (fun _ y1 _ => absurd p1 y1) (fun y0 => absurd p0 y0) (fun y0 => absurd p0 y0), t⟩
    · have t := t.2 p1
      obtain ⟨b8, t⟩ := t
      by_cases p2 : (I1 (x0 + 4) x1.toNatClampNeg) = (4 : Int32)
      · have t := t.1 p2
        exact ⟨_, _, b_X5_harmOf_0 (I12 := I) (v14 := 0) h_x0 h_x2 m2 (fun _ => b5) (fun _ y1 => absurd y1 p1) (fun _ _ => b8) (fun _ _ y2 => absurd p2 y2) (fun _ _ _ => ⟨rfl, rfl⟩) (fun y0 => absurd p0 y0) (fun y0 => absurd p0 y0), t⟩
      · have t := t.2 p2
        exact ⟨_, _, b_X5_harmOf_0 (I12 := I) (v14 := 0) h_x0 h_x2 m2 (fun _ => b5) (fun _ y1 => absurd y1 p1) (fun _ _ => b8) (fun _ _ _ => ⟨rfl, rfl⟩) (fun _ _ y2 => absurd y2 p2) (fun y0 => absurd p0 y0) (fun y0 => absurd p0 y0), t⟩
  · have t := t.2 p0
    obtain ⟨I12, v14, m13, t⟩ := t
    exact ⟨_, _, b_X5_harmOf_0  h_x0 h_x2 m2 (fun y0 => absurd y0 p0) (fun y0 _ => absurd y0 p0) (fun y0 _ => absurd y0 p0) (fun y0 _ _ => absurd y0 p0) (fun y0 _ _ => absurd y0 p0) (fun _ => m13) (fun _ => ⟨rfl, rfl⟩), t⟩
abbrev s_X5_harmRule_0 (γ : rG) (l : Launch) (x0 : Nat) (x1 : Int32) (x2 : Nat) (h : rHeap) (Q : rHeap → Option Value → Prop) : Prop := rW γ l m_X5_harmRule 0 0 0 [some (.ref x0), some (.int x1), some (.ref x2), none, none, none, none, none] [] h Q
theorem w_X5_harmRule_0 {γ : rG} {l : Launch} {Q : rHeap → Option Value → Prop} {sh : Nat × (Nat → Nat) × (Nat → Nat)} {I : Nat → Nat → Int32} {J : Nat → Nat → Int64} {R : Nat → Nat → Option Nat} {x0 : Nat} {x1 : Int32} {x2 : Nat}
    (h_x0 : At5 sh R x0)
    (h_x2 : At3 sh R x2)
    (t : vp_in x1 16 ∧ (vp_in x1 16 ∧ (vp_in x1 16 ∧ (vp_in x1 16 ∧ (∃ (I5 : Nat → Nat → Int32), rMet γ l m_X3_setVars [.ref x2, .int (I (x0 + 4) x1.toNatClampNeg), .int (I (x0 + 5) x1.toNatClampNeg), .int (I (x0 + 6) x1.toNatClampNeg), .int x1, .int (I (x0 + 7) x1.toNatClampNeg)] (sh, I, J, R) (sh, I5, J, R) none ∧ (rW γ l m_X5_harmRule 0 0 37 [none, none, some (.ref x2), some (.int (-1 : Int32)), some (.int (0 : Int32)), some (.int (0 : Int32)), none, none] [] (sh, I5, J, R) Q)))))) :
    rW γ l m_X5_harmRule 0 0 0 [some (.ref x0), some (.int x1), some (.ref x2), none, none, none, none, none] [] (sh, I, J, R) Q := by
  obtain ⟨b1, t⟩ := t
  obtain ⟨b2, t⟩ := t
  obtain ⟨b3, t⟩ := t
  obtain ⟨b4, t⟩ := t
  obtain ⟨I5, m6, t⟩ := t
  obtain ⟨hf, r, t, q⟩ := t
  exact ⟨hf, r, b_X5_harmRule_0  h_x0 h_x2 b1 b2 b3 b4 m6 t, q⟩
abbrev s_X5_harmRule_37 (γ : rG) (l : Launch) (x2 : Nat) (x3 : Int32) (x4 : Int32) (x5 : Int32) (h : rHeap) (Q : rHeap → Option Value → Prop) : Prop := rW γ l m_X5_harmRule 0 0 37 [none, none, some (.ref x2), some (.int x3), some (.int x4), some (.int x5), none, none] [] h Q
theorem w_X5_harmRule_37 {γ : rG} {l : Launch} {Q : rHeap → Option Value → Prop} {sh : Nat × (Nat → Nat) × (Nat → Nat)} {I : Nat → Nat → Int32} {J : Nat → Nat → Int64} {R : Nat → Nat → Option Nat} {x2 : Nat} {x3 : Int32} {x4 : Int32} {x5 : Int32}
    (h_x2 : At3 sh R x2)
    (t : ((3 : Int32) ≤ x5 → (Q (sh, I, J, R) (some (.int x3)))) ∧ (¬ (3 : Int32) ≤ x5 → (∃ (I3 : Nat → Nat → Int32) (v5 : Int32), rMet γ l m_X3_firstRule [.ref x2, .int x5] (sh, I, J, R) (sh, I3, J, R) (some (.int v5)) ∧ ((v5 = (-1 : Int32) → (rW γ l m_X5_harmRule 0 0 37 [none, none, some (.ref x2), some (.int x3), some (.int x4), some (.int (x5 + (1 : Int32))), none, none] [] (sh, I3, J, R) Q)) ∧ (¬ v5 = (-1 : Int32) → (∃ (I8 : Nat → Nat → Int32) (v10 : Int32), rMet γ l m_X3_worth [.ref x2, .int v5] (sh, I3, J, R) (sh, I8, J, R) (some (.int v10)) ∧ ((x3 = (-1 : Int32) → (rW γ l m_X5_harmRule 0 0 37 [none, none, some (.ref x2), some (.int v5), some (.int v10), some (.int (x5 + (1 : Int32))), none, none] [] (sh, I8, J, R) Q)) ∧ (¬ x3 = (-1 : Int32) → ((v10 < x4 → (rW γ l m_X5_harmRule 0 0 37 [none, none, some (.ref x2), some (.int v5), some (.int v10), some (.int (x5 + (1 : Int32))), none, none] [] (sh, I8, J, R) Q)) ∧ (¬ v10 < x4 → ((v10 = x4 → ((x3 ≤ v5 → (rW γ l m_X5_harmRule 0 0 37 [none, none, some (.ref x2), some (.int x3), some (.int x4), some (.int (x5 + (1 : Int32))), none, none] [] (sh, I8, J, R) Q)) ∧ (¬ x3 ≤ v5 → (rW γ l m_X5_harmRule 0 0 37 [none, none, some (.ref x2), some (.int v5), some (.int v10), some (.int (x5 + (1 : Int32))), none, none] [] (sh, I8, J, R) Q)))) ∧ (¬ v10 = x4 → (rW γ l m_X5_harmRule 0 0 37 [none, none, some (.ref x2), some (.int x3), some (.int x4), some (.int (x5 + (1 : Int32))), none, none] [] (sh, I8, J, R) Q))))))))))))) :
    rW γ l m_X5_harmRule 0 0 37 [none, none, some (.ref x2), some (.int x3), some (.int x4), some (.int x5), none, none] [] (sh, I, J, R) Q := by
  by_cases p0 : (3 : Int32) ≤ x5
  · have t := t.1 p0
    exact ⟨_, _, b_X5_harmRule_37 (I3 := I) (v5 := 0) (I8 := I) (v10 := 0) h_x2 (fun _ => ⟨rfl, rfl⟩) (fun y0 => absurd p0 y0) (fun y0 _ => absurd p0 y0) (fun y0 _ => absurd p0 y0) (fun y0 _ _ => absurd p0 y0) (fun y0 _ _ _ => absurd p0 y0) (fun y0 _ _ _ _ => absurd p0 y0) (fun y0 _ _ _ _ _ => absurd p0 y0) (fun y0 _ _ _ _ _ => absurd p0 y0), t⟩
  · have t := t.2 p0
    obtain ⟨I3, v5, m4, t⟩ := t
    by_cases p1 : v5 = (-1 : Int32)
    · have t := t.1 p1
      obtain ⟨hf, r, t, q⟩ := t
      exact ⟨hf, r, b_X5_harmRule_37 (I8 := I) (v10 := 0) h_x2 (fun y0 => absurd y0 p0) (fun _ => m4) (fun _ _ => t) (fun _ y1 => absurd p1 y1) (fun _ y1 _ => absurd p1 y1) (fun _ y1 _ _ => absurd p1 y1) (fun _ y1 _ _ _ => absurd p1 y1) (fun _ y1 _ _ _ _ => absurd p1 y1) (fun _ y1 _ _ _ _ => absurd p1 y1), q⟩
    · have t := t.2 p1
      obtain ⟨I8, v10, m9, t⟩ := t
      by_cases p2 : x3 = (-1 : Int32)
      · have t := t.1 p2
        obtain ⟨hf, r, t, q⟩ := t
        exact ⟨hf, r, b_X5_harmRule_37  h_x2 (fun y0 => absurd y0 p0) (fun _ => m4) (fun _ y1 => absurd y1 p1) (fun _ _ => m9) (fun _ _ _ => t) (fun _ _ y2 _ => absurd p2 y2) (fun _ _ y2 _ _ => absurd p2 y2) (fun _ _ y2 _ _ _ => absurd p2 y2) (fun _ _ y2 _ _ _ => absurd p2 y2), q⟩
      · have t := t.2 p2
        by_cases p3 : v10 < x4
        · have t := t.1 p3
          obtain ⟨hf, r, t, q⟩ := t
          exact ⟨hf, r, b_X5_harmRule_37  h_x2 (fun y0 => absurd y0 p0) (fun _ => m4) (fun _ y1 => absurd y1 p1) (fun _ _ => m9) (fun _ _ y2 => absurd y2 p2) (fun _ _ _ _ => t) (fun _ _ _ y3 _ => absurd p3 y3) (fun _ _ _ y3 _ _ => absurd p3 y3) (fun _ _ _ y3 _ _ => absurd p3 y3), q⟩
        · have t := t.2 p3
          by_cases p4 : v10 = x4
          · have t := t.1 p4
            by_cases p5 : x3 ≤ v5
            · have t := t.1 p5
              obtain ⟨hf, r, t, q⟩ := t
              exact ⟨hf, r, b_X5_harmRule_37  h_x2 (fun y0 => absurd y0 p0) (fun _ => m4) (fun _ y1 => absurd y1 p1) (fun _ _ => m9) (fun _ _ y2 => absurd y2 p2) (fun _ _ _ y3 => absurd y3 p3) (fun _ _ _ _ y4 => absurd p4 y4) (fun _ _ _ _ _ _ => t) (fun _ _ _ _ _ y5 => absurd p5 y5), q⟩
            · have t := t.2 p5
              obtain ⟨hf, r, t, q⟩ := t
              exact ⟨hf, r, b_X5_harmRule_37  h_x2 (fun y0 => absurd y0 p0) (fun _ => m4) (fun _ y1 => absurd y1 p1) (fun _ _ => m9) (fun _ _ y2 => absurd y2 p2) (fun _ _ _ y3 => absurd y3 p3) (fun _ _ _ _ y4 => absurd p4 y4) (fun _ _ _ _ _ y5 => absurd y5 p5) (fun _ _ _ _ _ _ => t), q⟩
          · have t := t.2 p4
            obtain ⟨hf, r, t, q⟩ := t
            exact ⟨hf, r, b_X5_harmRule_37  h_x2 (fun y0 => absurd y0 p0) (fun _ => m4) (fun _ y1 => absurd y1 p1) (fun _ _ => m9) (fun _ _ y2 => absurd y2 p2) (fun _ _ _ y3 => absurd y3 p3) (fun _ _ _ _ _ => t) (fun _ _ _ _ y4 _ => absurd y4 p4) (fun _ _ _ _ y4 _ => absurd y4 p4), q⟩
abbrev s_X5_harmOfAll_0 (γ : rG) (l : Launch) (x0 : Nat) (x1 : Nat) (h : rHeap) (Q : rHeap → Option Value → Prop) : Prop := rW γ l m_X5_harmOfAll 0 0 0 [some (.ref x0), some (.ref x1), none, none] [] h Q
theorem w_X5_harmOfAll_0 {γ : rG} {l : Launch} {Q : rHeap → Option Value → Prop} {sh : Nat × (Nat → Nat) × (Nat → Nat)} {I : Nat → Nat → Int32} {J : Nat → Nat → Int64} {R : Nat → Nat → Option Nat} {x0 : Nat} {x1 : Nat}
    (h_x0 : At5 sh R x0)
    (h_x1 : At3 sh R x1)
    (t : rW γ l m_X5_harmOfAll 0 0 4 [some (.ref x0), some (.ref x1), some (.int (0 : Int32)), some (.int (0 : Int32))] [] (sh, I, J, R) Q) :
    rW γ l m_X5_harmOfAll 0 0 0 [some (.ref x0), some (.ref x1), none, none] [] (sh, I, J, R) Q := by
  obtain ⟨hf, r, t, q⟩ := t
  exact ⟨hf, r, b_X5_harmOfAll_0  h_x0 h_x1 t, q⟩
abbrev s_X5_harmOfAll_4 (γ : rG) (l : Launch) (x0 : Nat) (x1 : Nat) (x2 : Int32) (x3 : Int32) (h : rHeap) (Q : rHeap → Option Value → Prop) : Prop := rW γ l m_X5_harmOfAll 0 0 4 [some (.ref x0), some (.ref x1), some (.int x2), some (.int x3)] [] h Q
theorem w_X5_harmOfAll_4 {γ : rG} {l : Launch} {Q : rHeap → Option Value → Prop} {sh : Nat × (Nat → Nat) × (Nat → Nat)} {I : Nat → Nat → Int32} {J : Nat → Nat → Int64} {R : Nat → Nat → Option Nat} {x0 : Nat} {x1 : Nat} {x2 : Int32} {x3 : Int32}
    (h_x0 : At5 sh R x0)
    (h_x1 : At3 sh R x1)
    (t : ((I x0 1) ≤ x3 → (Q (sh, I, J, R) (some (.int x2)))) ∧ (¬ (I x0 1) ≤ x3 → (∃ (I3 : Nat → Nat → Int32) (v5 : Int32), rMet γ l m_X5_harmOf [.ref x0, .int x3, .ref x1] (sh, I, J, R) (sh, I3, J, R) (some (.int v5)) ∧ (rW γ l m_X5_harmOfAll 0 0 4 [some (.ref x0), some (.ref x1), some (.int (x2 + v5)), some (.int (x3 + (1 : Int32)))] [] (sh, I3, J, R) Q)))) :
    rW γ l m_X5_harmOfAll 0 0 4 [some (.ref x0), some (.ref x1), some (.int x2), some (.int x3)] [] (sh, I, J, R) Q := by
  by_cases p0 : (I x0 1) ≤ x3
  · have t := t.1 p0
    exact ⟨_, _, b_X5_harmOfAll_4 (I3 := I) (v5 := 0) h_x0 h_x1 (fun _ => ⟨rfl, rfl⟩) (fun y0 => absurd p0 y0) (fun y0 => absurd p0 y0), t⟩
  · have t := t.2 p0
    obtain ⟨I3, v5, m4, t⟩ := t
    obtain ⟨hf, r, t, q⟩ := t
    exact ⟨hf, r, b_X5_harmOfAll_4  h_x0 h_x1 (fun y0 => absurd y0 p0) (fun _ => m4) (fun _ => t), q⟩
abbrev s_X5_sightOf_0 (γ : rG) (l : Launch) (x0 : Nat) (x1 : Int32) (x2 : Nat) (h : rHeap) (Q : rHeap → Option Value → Prop) : Prop := rW γ l m_X5_sightOf 0 0 0 [some (.ref x0), some (.int x1), some (.ref x2)] [] h Q
theorem w_X5_sightOf_0 {γ : rG} {l : Launch} {Q : rHeap → Option Value → Prop} {sh : Nat × (Nat → Nat) × (Nat → Nat)} {I : Nat → Nat → Int32} {J : Nat → Nat → Int64} {R : Nat → Nat → Option Nat} {x0 : Nat} {x1 : Int32} {x2 : Nat}
    (h_x0 : At5 sh R x0)
    (h_x2 : At3 sh R x2)
    (t : ∃ (b2 : Nat), rMet γ l m_X5_packet [.ref x0] (sh, I, J, R) (sh, I, J, R) (some (.ref b2)) ∧ (At2 sh R b2 ∧ (∃ (v4 : Int32), rMet γ l m_X2_canBeRead [.ref b2, .int x1] (sh, I, J, R) (sh, I, J, R) (some (.int v4)) ∧ ((v4 = 0 → (∃ (I6 : Nat → Nat → Int32) (v8 : Int32), rMet γ l m_X5_peepPrice [.ref x0, .int x1, .int (I x0 1), .ref x2] (sh, I, J, R) (sh, I6, J, R) (some (.int v8)) ∧ ((v8 = (-1 : Int32) → (Q (sh, I6, J, R) (some (.int (0 : Int32))))) ∧ (¬ v8 = (-1 : Int32) → (Q (sh, I6, J, R) (some (.int (2 : Int32)))))))) ∧ (¬ v4 = 0 → (Q (sh, I, J, R) (some (.int (1 : Int32))))))))) :
    rW γ l m_X5_sightOf 0 0 0 [some (.ref x0), some (.int x1), some (.ref x2)] [] (sh, I, J, R) Q := by
  obtain ⟨b2, m1, t⟩ := t
  obtain ⟨h_b2, t⟩ := t
  obtain ⟨v4, m3, t⟩ := t
  by_cases p0 : v4 = 0
  · have t := t.1 p0
    obtain ⟨I6, v8, m7, t⟩ := t
    by_cases p1 : v8 = (-1 : Int32)
    · have t := t.1 p1
      exact ⟨_, _, b_X5_sightOf_0  h_x0 h_x2 m1 h_b2 m3 (fun _ => m7) (fun _ y1 => absurd p1 y1) (fun _ _ => ⟨rfl, rfl⟩) (fun y0 => absurd p0 y0), t⟩
    · have t := t.2 p1
      exact ⟨_, _, b_X5_sightOf_0  h_x0 h_x2 m1 h_b2 m3 (fun _ => m7) (fun _ _ => ⟨rfl, rfl⟩) (fun _ y1 => absurd y1 p1) (fun y0 => absurd p0 y0), t⟩
  · have t := t.2 p0
    exact ⟨_, _, b_X5_sightOf_0 (I6 := I) (v8 := 0) h_x0 h_x2 m1 h_b2 m3 (fun y0 => absurd y0 p0) (fun y0 _ => absurd y0 p0) (fun y0 _ => absurd y0 p0) (fun _ => ⟨rfl, rfl⟩), t⟩
abbrev s_X5_peepPrice_0 (γ : rG) (l : Launch) (x0 : Nat) (x1 : Int32) (x2 : Int32) (x3 : Nat) (h : rHeap) (Q : rHeap → Option Value → Prop) : Prop := rW γ l m_X5_peepPrice 0 0 0 [some (.ref x0), some (.int x1), some (.int x2), some (.ref x3), none, none, none] [] h Q
theorem w_X5_peepPrice_0 {γ : rG} {l : Launch} {Q : rHeap → Option Value → Prop} {sh : Nat × (Nat → Nat) × (Nat → Nat)} {I : Nat → Nat → Int32} {J : Nat → Nat → Int64} {R : Nat → Nat → Option Nat} {x0 : Nat} {x1 : Int32} {x2 : Int32} {x3 : Nat}
    (h_x0 : At5 sh R x0)
    (h_x3 : At3 sh R x3)
    (t : vp_in x2 17 ∧ (∃ (b2 : Nat), R (x0 + 3) x2.toNatClampNeg = some b2 ∧ (At2 sh R b2 ∧ (∃ (v5 : Int32), rMet γ l m_X2_facing [.ref b2, .int x1] (sh, I, J, R) (sh, I, J, R) (some (.int v5)) ∧ ((v5 = (-1 : Int32) → (Q (sh, I, J, R) (some (.int (-1 : Int32))))) ∧ (¬ v5 = (-1 : Int32) → (∃ (v9 : Int32), rMet γ l m_X5_areBound [.ref x0, .int x1, .int v5, .int x2] (sh, I, J, R) (sh, I, J, R) (some (.int v9)) ∧ ((v9 = 0 → (∃ (v13 : Int32), rMet γ l m_X2_gapes [.ref b2, .int x1, .int v5] (sh, I, J, R) (sh, I, J, R) (some (.int v13)) ∧ ((v13 = 0 → (Q (sh, I, J, R) (some (.int (-1 : Int32))))) ∧ (¬ v13 = 0 → (vp_in x1 8 ∧ (vp_in ((I (b2 + 1) x1.toNatClampNeg)) 8 ∧ (vp_in x1 8 ∧ (∃ (I18 : Nat → Nat → Int32), rMet γ l m_X3_setVars [.ref x3, .int (6 : Int32), .int (I (b2 + 4) ((I (b2 + 1) x1.toNatClampNeg)).toNatClampNeg), .int (I (b2 + 1) x1.toNatClampNeg), .int x1, .int (I (b2 + 2) x1.toNatClampNeg)] (sh, I, J, R) (sh, I18, J, R) none ∧ (∃ (I20 : Nat → Nat → Int32) (v22 : Int32), rMet γ l m_X3_worthOfFirst [.ref x3, .int (3 : Int32), .int (-1 : Int32)] (sh, I18, J, R) (sh, I20, J, R) (some (.int v22)) ∧ (Q (sh, I20, J, R) (some (.int v22)))))))))))) ∧ (¬ v9 = 0 → (Q (sh, I, J, R) (some (.int (-1 : Int32))))))))))))) :
    rW γ l m_X5_peepPrice 0 0 0 [some (.ref x0), some (.int x1), some (.int x2), some (.ref x3), none, none, none] [] (sh, I, J, R) Q := by
  obtain ⟨b1, t⟩ := t
  obtain ⟨b2, e3, t⟩ := t
  obtain ⟨h_b2, t⟩ := t
  obtain ⟨v5, m4, t⟩ := t
  by_cases p0 : v5 = (-1 : Int32)
  · have t := t.1 p0
    exact ⟨_, _, b_X5_peepPrice_0 (v9 := 0) (v13 := 0) (I18 := I) (I20 := I) (v22 := 0) h_x0 h_x3 b1 e3 h_b2 m4 (fun _ => ⟨rfl, rfl⟩) (fun y0 => absurd p0 y0) (fun y0 _ => absurd p0 y0) (fun y0 _ => absurd p0 y0) (fun y0 _ _ => absurd p0 y0) (fun y0 _ _ => absurd p0 y0) (fun y0 _ _ => absurd p0 y0) (fun y0 _ _ => absurd p0 y0) (fun y0 _ _ => absurd p0 y0) (fun y0 _ _ => absurd p0 y0) (fun y0 _ _ => absurd p0 y0), t⟩
  · have t := t.2 p0
    obtain ⟨v9, m8, t⟩ := t
    by_cases p1 : v9 = 0
    · have t := t.1 p1
      obtain ⟨v13, m12, t⟩ := t
      by_cases p2 : v13 = 0
      · have t := t.1 p2
        exact ⟨_, _, b_X5_peepPrice_0 (I18 := I) (I20 := I) (v22 := 0) h_x0 h_x3 b1 e3 h_b2 m4 (fun y0 => absurd y0 p0) (fun _ => m8) (fun _ y1 => absurd p1 y1) (fun _ _ => m12) (fun _ _ y2 => absurd p2 y2) (fun _ _ y2 => absurd p2 y2) (fun _ _ y2 => absurd p2 y2) (fun _ _ y2 => absurd p2 y2) (fun _ _ y2 => absurd p2 y2) (fun _ _ y2 => absurd p2 y2) (fun _ _ _ => ⟨rfl, rfl⟩), t⟩
      · have t := t.2 p2
        obtain ⟨b15, t⟩ := t
        obtain ⟨b16, t⟩ := t
        obtain ⟨b17, t⟩ := t
        obtain ⟨I18, m19, t⟩ := t
        obtain ⟨I20, v22, m21, t⟩ := t
        exact ⟨_, _, b_X5_peepPrice_0  h_x0 h_x3 b1 e3 h_b2 m4 (fun y0 => absurd y0 p0) (fun _ => m8) (fun _ y1 => absurd p1 y1) (fun _ _ => m12) (fun _ _ _ => b15) (fun _ _ _ => b16) (fun _ _ _ => b17) (fun _ _ _ => m19) (fun _ _ _ => m21) (fun _ _ _ => ⟨rfl, rfl⟩) (fun _ _ y2 => absurd y2 p2), t⟩
    · have t := t.2 p1
      exact ⟨_, _, b_X5_peepPrice_0 (v13 := 0) (I18 := I) (I20 := I) (v22 := 0) h_x0 h_x3 b1 e3 h_b2 m4 (fun y0 => absurd y0 p0) (fun _ => m8) (fun _ _ => ⟨rfl, rfl⟩) (fun _ y1 => absurd y1 p1) (fun _ y1 _ => absurd y1 p1) (fun _ y1 _ => absurd y1 p1) (fun _ y1 _ => absurd y1 p1) (fun _ y1 _ => absurd y1 p1) (fun _ y1 _ => absurd y1 p1) (fun _ y1 _ => absurd y1 p1) (fun _ y1 _ => absurd y1 p1), t⟩
abbrev s_X5_areBound_0 (γ : rG) (l : Launch) (x0 : Nat) (x1 : Int32) (x2 : Int32) (x3 : Int32) (h : rHeap) (Q : rHeap → Option Value → Prop) : Prop := rW γ l m_X5_areBound 0 0 0 [some (.ref x0), some (.int x1), some (.int x2), some (.int x3), none, none] [] h Q
theorem w_X5_areBound_0 {γ : rG} {l : Launch} {Q : rHeap → Option Value → Prop} {sh : Nat × (Nat → Nat) × (Nat → Nat)} {I : Nat → Nat → Int32} {J : Nat → Nat → Int64} {R : Nat → Nat → Option Nat} {x0 : Nat} {x1 : Int32} {x2 : Int32} {x3 : Int32}
    (h_x0 : At5 sh R x0)
    (t : rW γ l m_X5_areBound 0 0 12 [some (.ref x0), none, none, some (.int x3), some (.int (((1 : Int32) <<< (x1 &&& 31)) ||| ((1 : Int32) <<< (x2 &&& 31)))), some (.int (0 : Int32))] [] (sh, I, J, R) Q) :
    rW γ l m_X5_areBound 0 0 0 [some (.ref x0), some (.int x1), some (.int x2), some (.int x3), none, none] [] (sh, I, J, R) Q := by
  obtain ⟨hf, r, t, q⟩ := t
  exact ⟨hf, r, b_X5_areBound_0  h_x0 t, q⟩
abbrev s_X5_areBound_12 (γ : rG) (l : Launch) (x0 : Nat) (x3 : Int32) (x4 : Int32) (x5 : Int32) (h : rHeap) (Q : rHeap → Option Value → Prop) : Prop := rW γ l m_X5_areBound 0 0 12 [some (.ref x0), none, none, some (.int x3), some (.int x4), some (.int x5)] [] h Q
theorem w_X5_areBound_12 {γ : rG} {l : Launch} {Q : rHeap → Option Value → Prop} {sh : Nat × (Nat → Nat) × (Nat → Nat)} {I : Nat → Nat → Int32} {J : Nat → Nat → Int64} {R : Nat → Nat → Option Nat} {x0 : Nat} {x3 : Int32} {x4 : Int32} {x5 : Int32}
    (h_x0 : At5 sh R x0)
    (t : (x3 ≤ x5 → (Q (sh, I, J, R) (some (.int (0 : Int32))))) ∧ (¬ x3 ≤ x5 → (vp_in x5 16 ∧ ((((I (x0 + 8) x5.toNatClampNeg) &&& x4) = x4 → (Q (sh, I, J, R) (some (.int (1 : Int32))))) ∧ (¬ ((I (x0 + 8) x5.toNatClampNeg) &&& x4) = x4 → (rW γ l m_X5_areBound 0 0 12 [some (.ref x0), none, none, some (.int x3), some (.int x4), some (.int (x5 + (1 : Int32)))] [] (sh, I, J, R) Q)))))) :
    rW γ l m_X5_areBound 0 0 12 [some (.ref x0), none, none, some (.int x3), some (.int x4), some (.int x5)] [] (sh, I, J, R) Q := by
  by_cases p0 : x3 ≤ x5
  · have t := t.1 p0
    exact ⟨_, _, b_X5_areBound_12  h_x0 (fun _ => ⟨rfl, rfl⟩) (fun y0 => absurd p0 y0) (fun y0 _ => absurd p0 y0) (fun y0 _ => absurd p0 y0), t⟩
  · have t := t.2 p0
    obtain ⟨b3, t⟩ := t
    by_cases p1 : ((I (x0 + 8) x5.toNatClampNeg) &&& x4) = x4
    · have t := t.1 p1
      exact ⟨_, _, b_X5_areBound_12  h_x0 (fun y0 => absurd y0 p0) (fun _ => b3) (fun _ y1 => absurd p1 y1) (fun _ _ => ⟨rfl, rfl⟩), t⟩
    · have t := t.2 p1
      obtain ⟨hf, r, t, q⟩ := t
      exact ⟨hf, r, b_X5_areBound_12  h_x0 (fun y0 => absurd y0 p0) (fun _ => b3) (fun _ _ => t) (fun _ y1 => absurd y1 p1), q⟩
abbrev s_X5_weigh_0 (γ : rG) (l : Launch) (x0 : Nat) (x1 : Int32) (x2 : Nat) (h : rHeap) (Q : rHeap → Option Value → Prop) : Prop := rW γ l m_X5_weigh 0 0 0 [some (.ref x0), some (.int x1), some (.ref x2), none, none, none] [] h Q
theorem w_X5_weigh_0 {γ : rG} {l : Launch} {Q : rHeap → Option Value → Prop} {sh : Nat × (Nat → Nat) × (Nat → Nat)} {I : Nat → Nat → Int32} {J : Nat → Nat → Int64} {R : Nat → Nat → Option Nat} {x0 : Nat} {x1 : Int32} {x2 : Nat}
    (h_x0 : At5 sh R x0)
    (h_x2 : At3 sh R x2)
    (t : rW γ l m_X5_weigh 0 0 18 [some (.ref x0), some (.int x1), some (.ref x2), some (.int (0 : Int32)), some (.int ((up (up I x0 12 (-1 : Int32)) x0 13 (-1 : Int32)) x0 1)), none] [] (sh, (up (up I x0 12 (-1 : Int32)) x0 13 (-1 : Int32)), J, R) Q) :
    rW γ l m_X5_weigh 0 0 0 [some (.ref x0), some (.int x1), some (.ref x2), none, none, none] [] (sh, I, J, R) Q := by
  obtain ⟨hf, r, t, q⟩ := t
  exact ⟨hf, r, b_X5_weigh_0  h_x0 h_x2 t, q⟩
abbrev s_X5_weigh_18 (γ : rG) (l : Launch) (x0 : Nat) (x1 : Int32) (x2 : Nat) (x3 : Int32) (x4 : Int32) (h : rHeap) (Q : rHeap → Option Value → Prop) : Prop := rW γ l m_X5_weigh 0 0 18 [some (.ref x0), some (.int x1), some (.ref x2), some (.int x3), some (.int x4), none] [] h Q
theorem w_X5_weigh_18 {γ : rG} {l : Launch} {Q : rHeap → Option Value → Prop} {sh : Nat × (Nat → Nat) × (Nat → Nat)} {I : Nat → Nat → Int32} {J : Nat → Nat → Int64} {R : Nat → Nat → Option Nat} {x0 : Nat} {x1 : Int32} {x2 : Nat} {x3 : Int32} {x4 : Int32}
    (h_x0 : At5 sh R x0)
    (h_x2 : At3 sh R x2)
    (t : (x4 < 0 → (Q (sh, I, J, R) (none))) ∧ (¬ x4 < 0 → (((I x0 1) ≤ x4 → (rW γ l m_X5_weigh 0 0 42 [some (.ref x0), some (.int x1), some (.ref x2), some (.int x3), some (.int x4), none] [] (sh, I, J, R) Q)) ∧ (¬ (I x0 1) ≤ x4 → (∃ (I5 : Nat → Nat → Int32) (v7 : Int32), rMet γ l m_X5_harmOf [.ref x0, .int x4, .ref x2] (sh, I, J, R) (sh, I5, J, R) (some (.int v7)) ∧ (rW γ l m_X5_weigh 0 0 42 [some (.ref x0), some (.int x1), some (.ref x2), some (.int (x3 + v7)), some (.int x4), none] [] (sh, I5, J, R) Q)))))) :
    rW γ l m_X5_weigh 0 0 18 [some (.ref x0), some (.int x1), some (.ref x2), some (.int x3), some (.int x4), none] [] (sh, I, J, R) Q := by
  by_cases p0 : x4 < 0
  · have t := t.1 p0
    exact ⟨_, _, b_X5_weigh_18 (I5 := I) (v7 := 0) h_x0 h_x2 (fun _ => ⟨rfl, rfl⟩) (fun y0 _ => absurd p0 y0) (fun y0 _ => absurd p0 y0) (fun y0 _ => absurd p0 y0), t⟩
  · have t := t.2 p0
    by_cases p1 : (I x0 1) ≤ x4
    · have t := t.1 p1
      obtain ⟨hf, r, t, q⟩ := t
      exact ⟨hf, r, b_X5_weigh_18 (I5 := I) (v7 := 0) h_x0 h_x2 (fun y0 => absurd y0 p0) (fun _ _ => t) (fun _ y1 => absurd p1 y1) (fun _ y1 => absurd p1 y1), q⟩
    · have t := t.2 p1
      obtain ⟨I5, v7, m6, t⟩ := t
      obtain ⟨hf, r, t, q⟩ := t
      exact ⟨hf, r, b_X5_weigh_18  h_x0 h_x2 (fun y0 => absurd y0 p0) (fun _ y1 => absurd y1 p1) (fun _ _ => m6) (fun _ _ => t), q⟩
abbrev s_X5_weigh_42 (γ : rG) (l : Launch) (x0 : Nat) (x1 : Int32) (x2 : Nat) (x3 : Int32) (x4 : Int32) (h : rHeap) (Q : rHeap → Option Value → Prop) : Prop := rW γ l m_X5_weigh 0 0 42 [some (.ref x0), some (.int x1), some (.ref x2), some (.int x3), some (.int x4), none] [] h Q
theorem w_X5_weigh_42 {γ : rG} {l : Launch} {Q : rHeap → Option Value → Prop} {sh : Nat × (Nat → Nat) × (Nat → Nat)} {I : Nat → Nat → Int32} {J : Nat → Nat → Int64} {R : Nat → Nat → Option Nat} {x0 : Nat} {x1 : Int32} {x2 : Nat} {x3 : Int32} {x4 : Int32}
    (h_x0 : At5 sh R x0)
    (h_x2 : At3 sh R x2)
    (t : vp_in x4 17 ∧ (∃ (b2 : Nat), R (x0 + 3) x4.toNatClampNeg = some b2 ∧ (At2 sh R b2 ∧ (∃ (v5 : Int32), rMet γ l m_X2_canBeRead [.ref b2, .int x1] (sh, I, J, R) (sh, I, J, R) (some (.int v5)) ∧ ((v5 = 0 → (∃ (I7 : Nat → Nat → Int32) (v9 : Int32), rMet γ l m_X5_peepPrice [.ref x0, .int x1, .int x4, .ref x2] (sh, I, J, R) (sh, I7, J, R) (some (.int v9)) ∧ (rW γ l m_X5_weigh 0 0 68 [some (.ref x0), some (.int x1), some (.ref x2), some (.int x3), some (.int x4), none] [.int v9] (sh, I7, J, R) Q))) ∧ (¬ v5 = 0 → (rW γ l m_X5_weigh 0 0 68 [some (.ref x0), some (.int x1), some (.ref x2), some (.int x3), some (.int x4), none] [.int (0 : Int32)] (sh, I, J, R) Q))))))) :
    rW γ l m_X5_weigh 0 0 42 [some (.ref x0), some (.int x1), some (.ref x2), some (.int x3), some (.int x4), none] [] (sh, I, J, R) Q := by
  obtain ⟨b1, t⟩ := t
  obtain ⟨b2, e3, t⟩ := t
  obtain ⟨h_b2, t⟩ := t
  obtain ⟨v5, m4, t⟩ := t
  by_cases p0 : v5 = 0
  · have t := t.1 p0
    obtain ⟨I7, v9, m8, t⟩ := t
    obtain ⟨hf, r, t, q⟩ := t
    exact ⟨hf, r, b_X5_weigh_42  h_x0 h_x2 b1 e3 h_b2 m4 (fun _ => m8) (fun _ => t) (fun y0 => absurd p0 y0), q⟩
  · have t := t.2 p0
    obtain ⟨hf, r, t, q⟩ := t
    exact ⟨hf, r, b_X5_weigh_42 (I7 := I) (v9 := 0) h_x0 h_x2 b1 e3 h_b2 m4 (fun y0 => absurd y0 p0) (fun y0 => absurd y0 p0) (fun _ => t), q⟩
abbrev s_X5_weigh_68 (γ : rG) (l : Launch) (x0 : Nat) (x1 : Int32) (x2 : Nat) (x3 : Int32) (x4 : Int32) (s0 : Int32) (h : rHeap) (Q : rHeap → Option Value → Prop) : Prop := rW γ l m_X5_weigh 0 0 68 [some (.ref x0), some (.int x1), some (.ref x2), some (.int x3), some (.int x4), none] [.int s0] h Q
theorem w_X5_weigh_68 {γ : rG} {l : Launch} {Q : rHeap → Option Value → Prop} {sh : Nat × (Nat → Nat) × (Nat → Nat)} {I : Nat → Nat → Int32} {J : Nat → Nat → Int64} {R : Nat → Nat → Option Nat} {x0 : Nat} {x1 : Int32} {x2 : Nat} {x3 : Int32} {x4 : Int32} {s0 : Int32}
    (h_x0 : At5 sh R x0)
    (h_x2 : At3 sh R x2)
    (t : (s0 = (-1 : Int32) → (rW γ l m_X5_weigh 0 0 18 [some (.ref x0), some (.int x1), some (.ref x2), some (.int x3), some (.int (x4 + (-1 : Int32))), none] [] (sh, I, J, R) Q)) ∧ (¬ s0 = (-1 : Int32) → (((I x0 12) = (-1 : Int32) → (rW γ l m_X5_weigh 0 0 95 [some (.ref x0), some (.int x1), some (.ref x2), some (.int x3), some (.int x4), some (.int s0)] [] (sh, I, J, R) Q)) ∧ (¬ (I x0 12) = (-1 : Int32) → (((I x0 12) ≤ (x3 + s0) → (rW γ l m_X5_weigh 0 0 18 [some (.ref x0), some (.int x1), some (.ref x2), some (.int x3), some (.int (x4 + (-1 : Int32))), none] [] (sh, I, J, R) Q)) ∧ (¬ (I x0 12) ≤ (x3 + s0) → (rW γ l m_X5_weigh 0 0 95 [some (.ref x0), some (.int x1), some (.ref x2), some (.int x3), some (.int x4), some (.int s0)] [] (sh, I, J, R) Q))))))) :
    rW γ l m_X5_weigh 0 0 68 [some (.ref x0), some (.int x1), some (.ref x2), some (.int x3), some (.int x4), none] [.int s0] (sh, I, J, R) Q := by
  by_cases p0 : s0 = (-1 : Int32)
  · have t := t.1 p0
    obtain ⟨hf, r, t, q⟩ := t
    exact ⟨hf, r, b_X5_weigh_68  h_x0 h_x2 (fun _ => t) (fun y0 _ => absurd p0 y0) (fun y0 _ _ => absurd p0 y0) (fun y0 _ _ => absurd p0 y0), q⟩
  · have t := t.2 p0
    by_cases p1 : (I x0 12) = (-1 : Int32)
    · have t := t.1 p1
      obtain ⟨hf, r, t, q⟩ := t
      exact ⟨hf, r, b_X5_weigh_68  h_x0 h_x2 (fun y0 => absurd y0 p0) (fun _ _ => t) (fun _ y1 _ => absurd p1 y1) (fun _ y1 _ => absurd p1 y1), q⟩
    · have t := t.2 p1
      by_cases p2 : (I x0 12) ≤ (x3 + s0)
      · have t := t.1 p2
        obtain ⟨hf, r, t, q⟩ := t
        exact ⟨hf, r, b_X5_weigh_68  h_x0 h_x2 (fun y0 => absurd y0 p0) (fun _ y1 => absurd y1 p1) (fun _ _ _ => t) (fun _ _ y2 => absurd p2 y2), q⟩
      · have t := t.2 p2
        obtain ⟨hf, r, t, q⟩ := t
        exact ⟨hf, r, b_X5_weigh_68  h_x0 h_x2 (fun y0 => absurd y0 p0) (fun _ y1 => absurd y1 p1) (fun _ _ y2 => absurd y2 p2) (fun _ _ _ => t), q⟩
abbrev s_X5_weigh_95 (γ : rG) (l : Launch) (x0 : Nat) (x1 : Int32) (x2 : Nat) (x3 : Int32) (x4 : Int32) (x5 : Int32) (h : rHeap) (Q : rHeap → Option Value → Prop) : Prop := rW γ l m_X5_weigh 0 0 95 [some (.ref x0), some (.int x1), some (.ref x2), some (.int x3), some (.int x4), some (.int x5)] [] h Q
theorem w_X5_weigh_95 {γ : rG} {l : Launch} {Q : rHeap → Option Value → Prop} {sh : Nat × (Nat → Nat) × (Nat → Nat)} {I : Nat → Nat → Int32} {J : Nat → Nat → Int64} {R : Nat → Nat → Option Nat} {x0 : Nat} {x1 : Int32} {x2 : Nat} {x3 : Int32} {x4 : Int32} {x5 : Int32}
    (h_x0 : At5 sh R x0)
    (h_x2 : At3 sh R x2)
    (t : rW γ l m_X5_weigh 0 0 18 [some (.ref x0), some (.int x1), some (.ref x2), some (.int x3), some (.int (x4 + (-1 : Int32))), none] [] (sh, (up (up I x0 12 (x3 + x5)) x0 13 ((((up I x0 12 (x3 + x5)) x0 1) - x4))), J, R) Q) :
    rW γ l m_X5_weigh 0 0 95 [some (.ref x0), some (.int x1), some (.ref x2), some (.int x3), some (.int x4), some (.int x5)] [] (sh, I, J, R) Q := by
  obtain ⟨hf, r, t, q⟩ := t
  exact ⟨hf, r, b_X5_weigh_95  h_x0 h_x2 t, q⟩
