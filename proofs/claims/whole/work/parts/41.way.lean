/-! ===== pieces: hand, look ===== -/
section PWY
variable {γ : rG} {l : Launch} {sh : Nat × (Nat → Nat) × (Nat → Nat)} {I : Nat → Nat → Int32} {J : Nat → Nat → Int64} {R : Nat → Nat → Option Nat}
def mwH (I : Nat → Nat → Int32) (D H j : Nat) : Nat → Nat → Int32 := fun b t => if b = 215 ∧ D ≤ t ∧ t < D + j then nI H else I b t
theorem mwH_0 {D H : Nat} : mwH I D H 0 = I := by
  funext b t
  unfold mwH
  rw [if_neg (by omega)]
theorem mwH_s {D H j : Nat} : up (mwH I D H j) 215 (D + j) (nI H) = mwH I D H (j + 1) := by
  funext b t
  simp only [up_at, mwH]
  by_cases h2 : b = 215 ∧ t = D + j
  · rw [if_pos h2, if_pos (by omega)]
  · rw [if_neg h2]
    by_cases h3 : b = 215 ∧ D ≤ t ∧ t < D + j
    · rw [if_pos h3, if_pos (by omega)]
    · rw [if_neg h3, if_neg (by omega)]
theorem mhand_loop {D H m : Nat} (hA : At9 sh R 169) (hH : I 169 69 = nI H) (hD : I 169 71 = nI D) (hH6 : H < 6) (hm : D + m ≤ 36) : ∀ j i, i + j = m → rV γ l m_X9_hand 0 0 29 [some (.ref 169), some (.int (nI m)), some (.int (nI i))] [] (sh, mwH I D H i, J, R) (sh, up (up (up (mwH I D H m) 214 H (nI m)) 169 71 (nI (D + m))) 169 69 (nI (H + 1)), J, R) (some (.int (nI H))) := by
  have e0 : ∀ i, mwH I D H i 169 69 = nI H := fun i => by unfold mwH; rw [if_neg (by omega)]; exact hH
  have e1 : ∀ i, mwH I D H i 169 71 = nI D := fun i => by unfold mwH; rw [if_neg (by omega)]; exact hD
  intro j
  induction j with
  | zero =>
    intro i hi
    have e : i = m := by omega
    subst e
    have hg : nI i ≤ nI i := nI_le (Nat.le_refl _) (by omega)
    refine b_X9_hand_29 hA (fun _ => by rw [e0]; exact vp_in_nI hH6 (by decide)) (fun _ => ?_) (fun q => absurd hg q) (fun q => absurd hg q)
    rw [e0, nI_clamp (by omega)]
    simp [up_at, e0, e1, nI_1, nI_add]
    rw [nI_pred]
  | succ j ih =>
    intro i hi
    have hg : ¬ nI m ≤ nI i := nI_ge (by omega) (by omega)
    refine b_X9_hand_29 hA (fun q => absurd q hg) (fun q => absurd q hg) (fun _ => by rw [e1, nI_add]; exact vp_in_nI (by omega) (by decide)) (fun _ => ?_)
    rw [e1, e0, nI_add, nI_clamp (by omega), nI_1, mwH_s]
    exact ih (i + 1) (by omega)
theorem six_le {H : Nat} (h : H ≤ 6) : ((6 : Int32) ≤ nI H ↔ H = 6) ∧ (nI H = (6 : Int32) ↔ H = 6) := by
  rw [show (6 : Int32) = nI 6 by decide, nI_leI (by decide) (by omega), nI_eq (by omega) (by decide)]
  omega
theorem forty_le {K : Nat} (h : K ≤ 40) : ((40 : Int32) ≤ nI K ↔ K = 40) ∧ (nI K = (40 : Int32) ↔ K = 40) := by
  rw [show (40 : Int32) = nI 40 by decide, nI_leI (by decide) (by omega), nI_eq (by omega) (by decide)]
  omega
theorem S_way.loc {I' : Nat → Nat → Int32} {H D K : Nat} {ho ld wh : Nat → Nat} (h : S_way I H D K ho ld wh) (hq : ∀ b j, P_way b j → I' b j = I b j) : S_way I' H D K ho ld wh := by
  obtain ⟨h1, h2, h3, ⟨a1, a2, a3⟩, ⟨b1, b2, b3⟩, c1, c2⟩ := h
  refine ⟨h1, h2, h3, ⟨(hq 142 0 (by simp [P_way])).trans a1, (hq 142 1 (by simp [P_way])).trans a2, (hq 142 2 (by simp [P_way])).trans a3⟩, ⟨(hq 169 69 (by simp [P_way])).trans b1, (hq 169 71 (by simp [P_way])).trans b2, (hq 169 73 (by simp [P_way])).trans b3⟩, fun j hj => ?_, fun j hj => ?_⟩
  · obtain ⟨q1, q2, q3⟩ := c1 j hj
    exact ⟨(hq 143 j (by simp [P_way])).trans q1, (hq 215 j (by simp [P_way])).trans q2, q3⟩
  · obtain ⟨q1, q2, q3, q4, q5, q6⟩ := c2 j hj
    exact ⟨(hq 144 j (by simp [P_way])).trans q1, (hq 145 j (by simp [P_way])).trans q2, (hq 216 j (by simp [P_way])).trans q3, (hq 217 j (by simp [P_way])).trans q4, q5, q6⟩
/-- hand: refused and nothing changed, or a new hand and 'priced' taken back -/
theorem pc_hand {H D K : Nat} {ho ld wh : Nat → Nat} (hA : At8 sh R 0) (hB : At9 sh R 169) (hS : S_way I H D K ho ld wh) (x : Int32) : ∃ (I1 I2 : Nat → Nat → Int32) (v : Int32), rMet γ l m_X8_hand [.ref 0, .int x] (sh, I, J, R) (sh, I1, J, R) (some (.int v)) ∧ rMet γ l m_X9_hand [.ref 169, .int x] (sh, I1, J, R) (sh, I2, J, R) (some (.int v)) ∧ (I2 = I ∨ ∃ (m : Nat) (ho' : Nat → Nat), S_way I2 (H + 1) (D + m) K ho' ld wh ∧ I2 142 3 = 0) ∧ Sm P_way I I2 := by
  obtain ⟨h1, h2, h3, ⟨a1, a2, a3⟩, ⟨b1, b2, b3⟩, c1, c2⟩ := hS
  have hA7 : At7 sh R 142 := (At8_4 hA).2
  have s6 := six_le h1
  have e36 : (36 : Int32) - nI D = nI (36 - D) := by rw [show (36 : Int32) = nI 36 by decide, pk_sub h2]
  by_cases g1 : H = 6
  · refine ⟨I, I, -1, e_X8_hand (b_X8_hand_0 hA (e_X7_addHand (b_X7_addHand_0 hA7 (fun _ => ⟨rfl, rfl⟩) (fun q => absurd (by rw [a1]; exact s6.1.mpr g1) q) (fun q => absurd (by rw [a1]; exact s6.1.mpr g1) q) (fun q => absurd (by rw [a1]; exact s6.1.mpr g1) q))) ⟨rfl, rfl⟩), e_X9_hand (b_X9_hand_0 hB (fun _ => ⟨rfl, rfl⟩) (fun q => absurd (by rw [b1]; exact s6.2.mpr g1) q) (fun q => absurd (by rw [b1]; exact s6.2.mpr g1) q) (fun q => absurd (by rw [b1]; exact s6.2.mpr g1) q)), Or.inl rfl, Sm.rf⟩
  · have n1 : ¬ (6 : Int32) ≤ I 142 0 := by rw [a1]; exact fun q => g1 (s6.1.mp q)
    have n2 : ¬ I 169 69 = (6 : Int32) := by rw [b1]; exact fun q => g1 (s6.2.mp q)
    by_cases g2 : x < (1 : Int32)
    · exact ⟨I, I, -1, e_X8_hand (b_X8_hand_0 hA (e_X7_addHand (b_X7_addHand_0 hA7 (fun q => absurd q n1) (fun _ _ => ⟨rfl, rfl⟩) (fun _ q => absurd g2 q) (fun _ q => absurd g2 q))) ⟨rfl, rfl⟩), e_X9_hand (b_X9_hand_0 hB (fun q => absurd q n2) (fun _ _ => ⟨rfl, rfl⟩) (fun _ q => absurd g2 q) (fun _ q => absurd g2 q)), Or.inl rfl, Sm.rf⟩
    · by_cases g3 : x ≤ nI (36 - D)
      · have g0 : ¬ x < 0 := fun q => g2 (by rw [Int32.lt_iff_toInt_lt] at q ⊢; have e1 : (1 : Int32).toInt = 1 := (by decide); have e0 : (0 : Int32).toInt = 0 := (by decide); omega)
        obtain ⟨m, hm, rfl⟩ : ∃ m : Nat, m ≤ 36 - D ∧ x = nI m := by
          rcases i32_cases x (n := 36 - D) (by omega) with (q | q) | q
          · exact absurd q g0
          · exact absurd g3 (by rw [Int32.not_le]; exact q)
          · exact q
        have l1 := hand_loop (γ := γ) (l := l) (J := J) (I := I) (D := D) (H := H) (m := m) hA7 a1 (by omega) m 0 (by omega)
        rw [wyH_0 a2] at l1
        have ia : I 142 1 = nI D := a2
        have m1 : rMet γ l m_X8_hand [.ref 0, .int (nI m)] (sh, I, J, R) (sh, up (up (wyH I D H m) 142 3 0) 142 0 (nI (H + 1)), J, R) (some (.int (nI H))) :=
          e_X8_hand (b_X8_hand_0 hA (e_X7_addHand (b_X7_addHand_0 hA7 (fun q => absurd q n1) (fun _ q => absurd q g2) (fun _ _ _ => l1) (fun _ _ q => absurd (by rw [ia, e36]; exact g3) q))) ⟨rfl, rfl⟩)
        generalize hI1 : up (up (wyH I D H m) 142 3 0) 142 0 (nI (H + 1)) = I1 at m1
        have off : ∀ b t, b ≠ 142 → b ≠ 143 → I1 b t = I b t := by
          intro b t q1 q2
          rw [← hI1]
          simp only [up_at, wyH]
          rw [if_neg (by omega), if_neg (by omega), if_neg (by omega), if_neg (by omega)]
        have l2 := mhand_loop (γ := γ) (l := l) (J := J) (I := I1) (D := D) (H := H) (m := m) hB ((off _ _ (by decide) (by decide)).trans b1) ((off _ _ (by decide) (by decide)).trans b2) (by omega) (by omega) m 0 (by omega)
        rw [mwH_0] at l2
        have m2 : rMet γ l m_X9_hand [.ref 169, .int (nI m)] (sh, I1, J, R) (sh, up (up (up (mwH I1 D H m) 214 H (nI m)) 169 71 (nI (D + m))) 169 69 (nI (H + 1)), J, R) (some (.int (nI H))) :=
          e_X9_hand (b_X9_hand_0 hB (fun q => absurd (by rw [← off 169 69 (by decide) (by decide)]; exact q) n2) (fun _ q => absurd q g2) (fun _ _ _ => l2) (fun _ _ q => absurd (by rw [off 169 71 (by decide) (by decide), b2, e36]; exact g3) q))
        refine ⟨_, _, _, m1, m2, Or.inr ⟨m, fun j => if j < D then ho j else H, ⟨by omega, by omega, h3, ⟨?_, ?_, ?_⟩, ⟨?_, ?_, ?_⟩, fun j hj => ⟨?_, ?_, ?_⟩, fun j hj => ?_⟩, ?_⟩, fun b t q => ?_⟩
        · simp [up_at, mwH, ← hI1]
        · simp [up_at, mwH, ← hI1, wyH]
        · simp [up_at, mwH, ← hI1, wyH, a3]
        · simp [up_at]
        · simp [up_at]
        · simp [up_at, mwH, off, b3]
        · have e : up (up (up (mwH I1 D H m) 214 H (nI m)) 169 71 (nI (D + m))) 169 69 (nI (H + 1)) 143 j = wyH I D H m 143 j := by simp [up_at, mwH, ← hI1]
          show _ = nI (if j < D then ho j else H)
          rw [e]
          unfold wyH
          by_cases hjd : j < D
          · rw [if_neg (by omega), if_neg (by omega), if_pos hjd]; exact (c1 j hjd).1
          · rw [if_pos (by omega), if_neg hjd]
        · have e : up (up (up (mwH I1 D H m) 214 H (nI m)) 169 71 (nI (D + m))) 169 69 (nI (H + 1)) 215 j = mwH I1 D H m 215 j := by simp [up_at]
          show _ = nI (if j < D then ho j else H)
          rw [e]
          unfold mwH
          by_cases hjd : j < D
          · rw [if_neg (by omega), if_pos hjd, off _ _ (by decide) (by decide)]; exact (c1 j hjd).2.1
          · rw [if_pos (by omega), if_neg hjd]
        · show (if j < D then ho j else H) < H + 1
          split
          · rename_i hjd; have := (c1 j hjd).2.2; omega
          · omega
        · obtain ⟨q1, q2, q3, q4, q5, q6⟩ := c2 j hj
          refine ⟨?_, ?_, ?_, ?_, by omega, q6⟩
          · simp [up_at, mwH, off, q1]
          · simp [up_at, mwH, off, q2]
          · simp [up_at, mwH, off, q3]
          · simp [up_at, mwH, off, q4]
        · simp [up_at, mwH, ← hI1]
        · simp only [P_way, not_or] at q
          simp only [up_at, mwH, ← hI1, wyH]
          rw [if_neg (by omega), if_neg (by omega), if_neg (by omega), if_neg (by omega), if_neg (by omega), if_neg (by omega), if_neg (by omega), if_neg (by omega)]
      · exact ⟨I, I, -1, e_X8_hand (b_X8_hand_0 hA (e_X7_addHand (b_X7_addHand_0 hA7 (fun q => absurd q n1) (fun _ q => absurd q g2) (fun _ _ q => absurd (by rw [← e36, ← a2]; exact q) g3) (fun _ _ _ => ⟨rfl, rfl⟩))) ⟨rfl, rfl⟩), e_X9_hand (b_X9_hand_0 hB (fun q => absurd q n2) (fun _ q => absurd q g2) (fun _ _ q => absurd (by rw [← e36, ← b2]; exact q) g3) (fun _ _ _ => ⟨rfl, rfl⟩)), Or.inl rfl, Sm.rf⟩
end PWY
