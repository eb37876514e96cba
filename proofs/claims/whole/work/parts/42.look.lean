/-! ===== piece: look ===== -/
section PLK
variable {γ : rG} {l : Launch} {sh : Nat × (Nat → Nat) × (Nat → Nat)} {I : Nat → Nat → Int32} {J : Nat → Nat → Int64} {R : Nat → Nat → Option Nat}
theorem ct_addLook {K : Nat} {x1 x2 : Int32} (hA : At7 sh R 142) (h3 : K ≤ 40) (hK : I 142 2 = nI K) (n1 : K ≠ 40) (n2 : ¬ x1 < 0) (n3 : ¬ I 142 1 ≤ x1) (n4 : ¬ x2 < 0) (n5 : x2 ≤ (2 : Int32)) : rMet γ l m_X7_addLook [.ref 142, .int x1, .int x2] (sh, I, J, R) (sh, up (up (up (up I 144 K x1) 145 K x2) 142 3 0) 142 2 (nI (K + 1)), J, R) (some (.int (nI K))) := by
  have g1 : ¬ (40 : Int32) ≤ I 142 2 := by rw [hK]; exact fun q => n1 ((forty_le h3).1.mp q)
  have eK : (nI K).toNatClampNeg = K := nI_clamp (by omega)
  have hin : vp_in (nI K) 40 := vp_in_nI (by omega) (by decide)
  refine e_X7_addLook (b_X7_addLook_0 hA (fun q => absurd q g1) (fun _ q => absurd q n2) (fun _ _ q => absurd q n3) (fun _ _ _ q => absurd q n4) (fun _ _ _ _ _ => by rw [hK]; exact hin) (fun _ _ _ _ _ => by simp [up_at, hK]; exact hin) (fun _ _ _ _ _ => ?_) (fun _ _ _ _ q => absurd n5 q))
  simp [up_at, hK, eK, nI_1]
  rw [nI_pred]
theorem ct_mlook {K : Nat} {x1 x2 : Int32} (hA : At9 sh R 169) (h3 : K ≤ 40) (hK : I 169 73 = nI K) (n1 : K ≠ 40) (n2 : ¬ x1 < 0) (n3 : ¬ I 169 71 ≤ x1) (n4 : ¬ x2 < 0) (n5 : x2 ≤ (2 : Int32)) : rMet γ l m_X9_look [.ref 169, .int x1, .int x2] (sh, I, J, R) (sh, up (up (up I 216 K x1) 217 K x2) 169 73 (nI (K + 1)), J, R) (some (.int (nI K))) := by
  have g1 : ¬ I 169 73 = (40 : Int32) := by rw [hK]; exact fun q => n1 ((forty_le h3).2.mp q)
  have eK : (nI K).toNatClampNeg = K := nI_clamp (by omega)
  have hin : vp_in (nI K) 40 := vp_in_nI (by omega) (by decide)
  refine e_X9_look (b_X9_look_0 hA (fun q => absurd q g1) (fun _ q => absurd q n2) (fun _ _ q => absurd q n3) (fun _ _ _ q => absurd q n4) (fun _ _ _ _ _ => by rw [hK]; exact hin) (fun _ _ _ _ _ => by simp [up_at, hK]; exact hin) (fun _ _ _ _ _ => ?_) (fun _ _ _ _ q => absurd n5 q))
  simp [up_at, hK, eK, nI_1]
  rw [nI_pred]
theorem pc_look {H D K : Nat} {ho ld wh : Nat → Nat} (hA : At8 sh R 0) (hB : At9 sh R 169) (hS : S_way I H D K ho ld wh) (x1 x2 : Int32) : ∃ (I1 I2 : Nat → Nat → Int32) (v : Int32), rMet γ l m_X8_look [.ref 0, .int x1, .int x2] (sh, I, J, R) (sh, I1, J, R) (some (.int v)) ∧ rMet γ l m_X9_look [.ref 169, .int x1, .int x2] (sh, I1, J, R) (sh, I2, J, R) (some (.int v)) ∧ (I2 = I ∨ ∃ (ld' wh' : Nat → Nat), S_way I2 H D (K + 1) ho ld' wh' ∧ I2 142 3 = 0) ∧ Sm P_way I I2 := by
  obtain ⟨h1, h2, h3, ⟨a1, a2, a3⟩, ⟨b1, b2, b3⟩, c1, c2⟩ := hS
  have hA7 : At7 sh R 142 := (At8_4 hA).2
  have s40 := forty_le h3
  have no : ∀ {P : Prop}, P → ((40 : Int32) ≤ I 142 2 ↔ K = 40) → True := fun _ _ => trivial
  have t1 : (40 : Int32) ≤ I 142 2 ↔ K = 40 := by rw [a3]; exact s40.1
  have t2 : I 169 73 = (40 : Int32) ↔ K = 40 := by rw [b3]; exact s40.2
  have t3 : I 142 1 ≤ x1 ↔ I 169 71 ≤ x1 := by rw [a2, b2]
  by_cases g1 : K = 40
  · have u1 := t1.mpr g1
    have u2 := t2.mpr g1
    exact ⟨I, I, -1, e_X8_look (b_X8_look_0 hA (e_X7_addLook (b_X7_addLook_0 hA7 (fun _ => ⟨rfl, rfl⟩) (fun q => absurd u1 q) (fun q => absurd u1 q) (fun q => absurd u1 q) (fun q => absurd u1 q) (fun q => absurd u1 q) (fun q => absurd u1 q) (fun q => absurd u1 q))) ⟨rfl, rfl⟩), e_X9_look (b_X9_look_0 hB (fun _ => ⟨rfl, rfl⟩) (fun q => absurd u2 q) (fun q => absurd u2 q) (fun q => absurd u2 q) (fun q => absurd u2 q) (fun q => absurd u2 q) (fun q => absurd u2 q) (fun q => absurd u2 q)), Or.inl rfl, Sm.rf⟩
  have w1 : ¬ (40 : Int32) ≤ I 142 2 := fun q => g1 (t1.mp q)
  have w2 : ¬ I 169 73 = (40 : Int32) := fun q => g1 (t2.mp q)
  by_cases g2 : x1 < 0
  · exact ⟨I, I, -1, e_X8_look (b_X8_look_0 hA (e_X7_addLook (b_X7_addLook_0 hA7 (fun q => absurd q w1) (fun _ _ => ⟨rfl, rfl⟩) (fun _ q => absurd g2 q) (fun _ q => absurd g2 q) (fun _ q => absurd g2 q) (fun _ q => absurd g2 q) (fun _ q => absurd g2 q) (fun _ q => absurd g2 q))) ⟨rfl, rfl⟩), e_X9_look (b_X9_look_0 hB (fun q => absurd q w2) (fun _ _ => ⟨rfl, rfl⟩) (fun _ q => absurd g2 q) (fun _ q => absurd g2 q) (fun _ q => absurd g2 q) (fun _ q => absurd g2 q) (fun _ q => absurd g2 q) (fun _ q => absurd g2 q)), Or.inl rfl, Sm.rf⟩
  by_cases g3 : I 142 1 ≤ x1
  · have g3' := t3.mp g3
    exact ⟨I, I, -1, e_X8_look (b_X8_look_0 hA (e_X7_addLook (b_X7_addLook_0 hA7 (fun q => absurd q w1) (fun _ q => absurd q g2) (fun _ _ _ => ⟨rfl, rfl⟩) (fun _ _ q => absurd g3 q) (fun _ _ q => absurd g3 q) (fun _ _ q => absurd g3 q) (fun _ _ q => absurd g3 q) (fun _ _ q => absurd g3 q))) ⟨rfl, rfl⟩), e_X9_look (b_X9_look_0 hB (fun q => absurd q w2) (fun _ q => absurd q g2) (fun _ _ _ => ⟨rfl, rfl⟩) (fun _ _ q => absurd g3' q) (fun _ _ q => absurd g3' q) (fun _ _ q => absurd g3' q) (fun _ _ q => absurd g3' q) (fun _ _ q => absurd g3' q)), Or.inl rfl, Sm.rf⟩
  have g3' : ¬ I 169 71 ≤ x1 := fun q => g3 (t3.mpr q)
  by_cases g4 : x2 < 0
  · exact ⟨I, I, -1, e_X8_look (b_X8_look_0 hA (e_X7_addLook (b_X7_addLook_0 hA7 (fun q => absurd q w1) (fun _ q => absurd q g2) (fun _ _ q => absurd q g3) (fun _ _ _ _ => ⟨rfl, rfl⟩) (fun _ _ _ q => absurd g4 q) (fun _ _ _ q => absurd g4 q) (fun _ _ _ q => absurd g4 q) (fun _ _ _ q => absurd g4 q))) ⟨rfl, rfl⟩), e_X9_look (b_X9_look_0 hB (fun q => absurd q w2) (fun _ q => absurd q g2) (fun _ _ q => absurd q g3') (fun _ _ _ _ => ⟨rfl, rfl⟩) (fun _ _ _ q => absurd g4 q) (fun _ _ _ q => absurd g4 q) (fun _ _ _ q => absurd g4 q) (fun _ _ _ q => absurd g4 q)), Or.inl rfl, Sm.rf⟩
  by_cases g5 : x2 ≤ (2 : Int32)
  · obtain ⟨d, hd, rfl⟩ := nI_of g2
    have hdD : d < D := by rw [a2, nI_leI (by omega) hd] at g3; omega
    obtain ⟨w, hw, rfl⟩ : ∃ w : Nat, w ≤ 2 ∧ x2 = nI w := by
      rcases i32_cases x2 (n := 2) (by decide) with (q | q) | q
      · exact absurd q g4
      · exact absurd g5 (by rw [Int32.not_le]; exact q)
      · exact q
    have m1 := ct_addLook (γ := γ) (l := l) (J := J) (I := I) hA7 h3 a3 g1 g2 g3 g4 g5
    generalize hI1 : up (up (up (up I 144 K (nI d)) 145 K (nI w)) 142 3 0) 142 2 (nI (K + 1)) = I1 at m1
    have off : ∀ b t, b ≠ 142 → b ≠ 144 → b ≠ 145 → I1 b t = I b t := by
      intro b t q1 q2 q3
      rw [← hI1]
      simp [up_at, q1, q2, q3]
    have m2 := ct_mlook (γ := γ) (l := l) (J := J) (I := I1) (K := K) (x1 := nI d) (x2 := nI w) hB h3 ((off _ _ (by decide) (by decide) (by decide)).trans b3) g1 g2 (by rw [off _ _ (by decide) (by decide) (by decide)]; exact g3') g4 g5
    refine ⟨_, _, _, e_X8_look (b_X8_look_0 hA m1 ⟨rfl, rfl⟩), m2, Or.inr ⟨va_up ld K d, va_up wh K w, ⟨h1, h2, by omega, ⟨?_, ?_, ?_⟩, ⟨?_, ?_, ?_⟩, fun j hj => ⟨?_, ?_, (c1 j hj).2.2⟩, fun j hj => ?_⟩, ?_⟩, fun b t q => ?_⟩
    · simp [up_at, ← hI1, a1]
    · simp [up_at, ← hI1, a2]
    · simp [up_at, ← hI1]
    · simp [up_at, off, b1]
    · simp [up_at, off, b2]
    · simp [up_at]
    · simp [up_at, off, (c1 j hj).1]
    · simp [up_at, off, (c1 j hj).2.1]
    · by_cases hjK : j = K
      · subst hjK
        simp [up_at, ← hI1, va_up, hdD]
        omega
      · obtain ⟨q1, q2, q3, q4, q5, q6⟩ := c2 j (by omega)
        simp [up_at, ← hI1, va_up, hjK, q1, q2, q3, q4, q5, q6]
    · simp [up_at, ← hI1]
    · simp only [P_way, not_or] at q
      simp only [up_at, ← hI1]
      rw [if_neg (by omega), if_neg (by omega), if_neg (by omega), if_neg (by omega), if_neg (by omega), if_neg (by omega), if_neg (by omega)]
  · exact ⟨I, I, -1, e_X8_look (b_X8_look_0 hA (e_X7_addLook (b_X7_addLook_0 hA7 (fun q => absurd q w1) (fun _ q => absurd q g2) (fun _ _ q => absurd q g3) (fun _ _ _ q => absurd q g4) (fun _ _ _ _ q => absurd q g5) (fun _ _ _ _ q => absurd q g5) (fun _ _ _ _ q => absurd q g5) (fun _ _ _ _ _ => ⟨rfl, rfl⟩))) ⟨rfl, rfl⟩), e_X9_look (b_X9_look_0 hB (fun q => absurd q w2) (fun _ q => absurd q g2) (fun _ _ q => absurd q g3') (fun _ _ _ q => absurd q g4) (fun _ _ _ _ q => absurd q g5) (fun _ _ _ _ q => absurd q g5) (fun _ _ _ _ q => absurd q g5) (fun _ _ _ _ _ => ⟨rfl, rfl⟩)), Or.inl rfl, Sm.rf⟩
end PLK
