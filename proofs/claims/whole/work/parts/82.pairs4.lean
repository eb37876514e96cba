/-! ===== pairs: find, finds, sheet ===== -/
def Pfd (b j : Nat) : Prop := (b = 116 ∧ j < 8) ∨ b = 207 ∨ b = 208 ∨ b = 209 ∨ (b = 169 ∧ j = 59)
def V_fnd (F : Fnd) : Prop := ∀ i, fVc F i < 4
theorem val_cases {z : Int32} {k : Nat} (hk : k < 100) (h1 : ¬ z < -1) (h2 : z ≤ nI k) : z = -1 ∨ ∃ v : Nat, v ≤ k ∧ z = nI v := by
  by_cases h0 : z < 0
  · left
    rw [Int32.lt_iff_toInt_lt] at h0 h1
    have e0 : (0 : Int32).toInt = 0 := by decide
    have e1 : (-1 : Int32).toInt = -1 := by decide
    apply Int32.toInt_inj.mp
    omega
  · right
    obtain ⟨v, hv, rfl⟩ := nI_of h0
    exact ⟨v, (nI_leI hv (by omega)).mp h2, rfl⟩
section PR4
variable {γ : rG} {l : Launch} {sh : Nat × (Nat → Nat) × (Nat → Nat)} {I : Nat → Nat → Int32} {J : Nat → Nat → Int64} {R : Nat → Nat → Option Nat} {a m N n : Nat} {F : Fnd} {T : Sht}
theorem ct_noteCrease_no {y z : Int32} (hA : At0 sh R a) (h0 : I a 0 = nI N) (hN : 2 ≤ N) (h : y < 0 ∨ nI (N - 1) ≤ y ∨ z < -1 ∨ ¬ z ≤ 3) : rMet γ l m_X0_noteCrease [.ref a, .int y, .int z] (sh, I, J, R) (sh, I, J, R) (some (.int 0)) := by
  have eN : I a 0 - 1 = nI (N - 1) := by rw [h0]; exact pk_sub (b := 1) (by omega)
  refine e_X0_noteCrease (rW_pure (w_X0_noteCrease_0 hA ?_))
  rw [eN]
  refine ⟨fun _ => ⟨rfl, rfl⟩, fun q1 => ⟨fun _ => ⟨rfl, rfl⟩, fun q2 => ⟨fun _ => ⟨rfl, rfl⟩, fun q3 => ⟨fun q4 => ?_, fun _ => ⟨rfl, rfl⟩⟩⟩⟩⟩
  rcases h with h | h | h | h
  · exact absurd h q1
  · exact absurd h q2
  · exact absurd h q3
  · exact absurd q4 h
theorem ct_noteSlit_no {y z : Int32} (hA : At0 sh R a) (h0 : I a 0 = nI N) (h : y < 0 ∨ nI N ≤ y ∨ z < -1 ∨ ¬ z ≤ 1) : rMet γ l m_X0_noteSlit [.ref a, .int y, .int z] (sh, I, J, R) (sh, I, J, R) (some (.int 0)) := by
  refine e_X0_noteSlit (rW_pure (w_X0_noteSlit_0 hA ?_))
  rw [h0]
  refine ⟨fun _ => ⟨rfl, rfl⟩, fun q1 => ⟨fun _ => ⟨rfl, rfl⟩, fun q2 => ⟨fun _ => ⟨rfl, rfl⟩, fun q3 => ⟨fun q4 => ?_, fun _ => ⟨rfl, rfl⟩⟩⟩⟩⟩
  rcases h with h | h | h | h
  · exact absurd h q1
  · exact absurd h q2
  · exact absurd h q3
  · exact absurd q4 h
theorem ct_noteDirt_no {y z : Int32} (hA : At0 sh R a) (h0 : I a 0 = nI N) (h : y < 0 ∨ nI (2 * N) ≤ y ∨ z < -1 ∨ ¬ z ≤ 1) : rMet γ l m_X0_noteDirt [.ref a, .int y, .int z] (sh, I, J, R) (sh, I, J, R) (some (.int 0)) := by
  refine e_X0_noteDirt (rW_pure (w_X0_noteDirt_0 hA ?_))
  rw [h0, show (2 : Int32) * nI N = nI (2 * N) from pk_mul 2 N]
  refine ⟨fun _ => ⟨rfl, rfl⟩, fun q1 => ⟨fun _ => ⟨rfl, rfl⟩, fun q2 => ⟨fun _ => ⟨rfl, rfl⟩, fun q3 => ⟨fun q4 => ?_, fun _ => ⟨rfl, rfl⟩⟩⟩⟩⟩
  rcases h with h | h | h | h
  · exact absurd h q1
  · exact absurd h q2
  · exact absurd h q3
  · exact absurd q4 h
/-- the model's find, refused -/
theorem cm_find_no {x y z : Int32} {k : Nat} (hA : At9 sh R m) (h39 : I m 39 = nI N) (hN : 2 ≤ N ∧ N ≤ 8) (hk : (x = 0 ∧ k = N - 1) ∨ (x = 1 ∧ k = N) ∨ (x = 2 ∧ k = 2 * N)) (h : y < 0 ∨ nI k ≤ y ∨ z < -1 ∨ ¬ z ≤ (if x = 0 then 3 else 1)) : rMet γ l m_X9_find [.ref m, .int x, .int y, .int z] (sh, I, J, R) (sh, I, J, R) (some (.int 0)) := by
  have b40 : s_X9_find_40 γ l m x y z (nI k) (sh, I, J, R) (fun hf v => hf = (sh, I, J, R) ∧ v = some (.int 0)) := by
    refine w_X9_find_40 hA ⟨fun _ => ⟨rfl, rfl⟩, fun q1 => ⟨fun _ => ⟨rfl, rfl⟩, fun q2 => ⟨fun _ => ⟨rfl, rfl⟩, fun q3 => ⟨fun q4 => ?_, fun q4 => ?_⟩⟩⟩⟩
    · refine w_X9_find_67 hA ⟨fun q5 => ?_, fun _ => ⟨rfl, rfl⟩⟩
      rcases h with h | h | h | h
      · exact absurd h q1
      · exact absurd h q2
      · exact absurd h q3
      · rw [if_pos q4] at h; exact absurd q5 h
    · refine w_X9_find_67 hA ⟨fun q5 => ?_, fun _ => ⟨rfl, rfl⟩⟩
      rcases h with h | h | h | h
      · exact absurd h q1
      · exact absurd h q2
      · exact absurd h q3
      · rw [if_neg q4] at h; exact absurd q5 h
  refine e_X9_find (rW_pure (w_X9_find_0 hA ?_))
  rw [h39, show nI N - (1 : Int32) = nI (N - 1) from pk_sub (b := 1) (by omega), show (2 : Int32) * nI N = nI (2 * N) from pk_mul 2 N]
  rcases hk with ⟨rfl, rfl⟩ | ⟨rfl, rfl⟩ | ⟨rfl, rfl⟩
  · exact ⟨fun _ => b40, fun q => absurd rfl q⟩
  · exact ⟨fun q => absurd q (by decide), fun _ => ⟨fun _ => b40, fun q => absurd rfl q⟩⟩
  · exact ⟨fun q => absurd q (by decide), fun _ => ⟨fun q => absurd q (by decide), fun _ => ⟨fun _ => b40, fun q => absurd rfl q⟩⟩⟩
theorem cm_find_0 {i : Nat} {z : Int32} (hA : At9 sh R m) (h39 : I m 39 = nI N) (hN : 2 ≤ N ∧ N ≤ 8) (hi : i + 1 < N) (h1 : ¬ z < -1) (h2 : z ≤ 3) : rMet γ l m_X9_find [.ref m, .int 0, .int (nI i), .int z] (sh, I, J, R) (sh, up (up I (m + 38) i z) m 59 0, J, R) (some (.int 1)) := by
  refine e_X9_find (rW_pure (w_X9_find_0 hA ⟨fun _ => ?_, fun q => absurd rfl q⟩))
  rw [h39, show nI N - (1 : Int32) = nI (N - 1) from pk_sub (b := 1) (by omega)]
  refine w_X9_find_40 hA ⟨fun q => absurd q (nI_pos (by omega)), fun _ => ⟨fun q => absurd q (nI_ge (by omega) (by omega)), fun _ => ⟨fun q => absurd q h1, fun _ => ⟨fun _ => w_X9_find_67 hA ⟨fun _ => ⟨fun _ => ⟨vp_in_nI (by omega) (by decide), ?_⟩, fun q => absurd rfl q⟩, fun q => absurd h2 q⟩, fun q => absurd rfl q⟩⟩⟩⟩
  rw [nI_clamp (by omega)]
  exact w_X9_find_83 hA ⟨fun q => absurd q (by decide), fun _ => w_X9_find_95 hA ⟨fun q => absurd q (by decide), fun _ => ⟨rfl, rfl⟩⟩⟩
theorem cm_find_1 {i : Nat} {z : Int32} (hA : At9 sh R m) (h39 : I m 39 = nI N) (hN : 2 ≤ N ∧ N ≤ 8) (hi : i < N) (h1 : ¬ z < -1) (h2 : z ≤ 1) : rMet γ l m_X9_find [.ref m, .int 1, .int (nI i), .int z] (sh, I, J, R) (sh, up (up I (m + 39) i z) m 59 0, J, R) (some (.int 1)) := by
  refine e_X9_find (rW_pure (w_X9_find_0 hA ⟨fun q => absurd q (by decide), fun _ => ⟨fun _ => ?_, fun q => absurd rfl q⟩⟩))
  rw [h39]
  refine w_X9_find_40 hA ⟨fun q => absurd q (nI_pos (by omega)), fun _ => ⟨fun q => absurd q (nI_ge (by omega) (by omega)), fun _ => ⟨fun q => absurd q h1, fun _ => ⟨fun q => absurd q (by decide), fun _ => w_X9_find_67 hA ⟨fun _ => ⟨fun q => absurd q (by decide), fun _ => ?_⟩, fun q => absurd h2 q⟩⟩⟩⟩⟩
  refine w_X9_find_83 hA ⟨fun _ => ⟨vp_in_nI (by omega) (by decide), ?_⟩, fun q => absurd rfl q⟩
  rw [nI_clamp (by omega)]
  exact w_X9_find_95 hA ⟨fun q => absurd q (by decide), fun _ => ⟨rfl, rfl⟩⟩
theorem cm_find_2 {i : Nat} {z : Int32} (hA : At9 sh R m) (h39 : I m 39 = nI N) (hN : 2 ≤ N ∧ N ≤ 8) (hi : i < 2 * N) (h1 : ¬ z < -1) (h2 : z ≤ 1) : rMet γ l m_X9_find [.ref m, .int 2, .int (nI i), .int z] (sh, I, J, R) (sh, up (up I (m + 40) i z) m 59 0, J, R) (some (.int 1)) := by
  refine e_X9_find (rW_pure (w_X9_find_0 hA ⟨fun q => absurd q (by decide), fun _ => ⟨fun q => absurd q (by decide), fun _ => ⟨fun _ => ?_, fun q => absurd rfl q⟩⟩⟩))
  rw [h39, show (2 : Int32) * nI N = nI (2 * N) from pk_mul 2 N]
  refine w_X9_find_40 hA ⟨fun q => absurd q (nI_pos (by omega)), fun _ => ⟨fun q => absurd q (nI_ge (by omega) (by omega)), fun _ => ⟨fun q => absurd q h1, fun _ => ⟨fun q => absurd q (by decide), fun _ => w_X9_find_67 hA ⟨fun _ => ⟨fun q => absurd q (by decide), fun _ => ?_⟩, fun q => absurd h2 q⟩⟩⟩⟩⟩
  refine w_X9_find_83 hA ⟨fun q => absurd q (by decide), fun _ => w_X9_find_95 hA ⟨fun _ => ⟨vp_in_nI (by omega) (by decide), ?_⟩, fun q => absurd rfl q⟩⟩
  rw [nI_clamp (by omega)]
  exact ⟨rfl, rfl⟩
theorem pc_find (hA : At8 sh R 0) (hB : At9 sh R 169) (hV : V_fnd F) (hC : FdC I 116 N F) (hM : FdM I 169 N F) (h39 : I 169 39 = nI N) (hN : 2 ≤ N ∧ N ≤ 8) (x y z : Int32) : ∃ (I1 I2 : Nat → Nat → Int32) (v : Int32), rMet γ l m_X8_find [.ref 0, .int x, .int y, .int z] (sh, I, J, R) (sh, I1, J, R) (some (.int v)) ∧ rMet γ l m_X9_find [.ref 169, .int x, .int y, .int z] (sh, I1, J, R) (sh, I2, J, R) (some (.int v)) ∧ (I2 = I ∨ ∃ F', V_fnd F' ∧ FdC I2 116 N F' ∧ FdM I2 169 N F' ∧ I2 116 7 = 0 ∧ I2 169 59 = 0) ∧ Sm Pfd I I2 := by
  have hA0 : At0 sh R 116 := (At8_3 hA).2
  have p1 : ∀ b j, (b = 116 ∧ j < 8) → Pfd b j := fun b j q => Or.inl q
  by_cases x0 : x = 0
  · subst x0
    by_cases g : y < 0 ∨ nI (N - 1) ≤ y ∨ z < -1 ∨ ¬ z ≤ 3
    · exact ⟨I, I, 0, e_X8_find (rW_pure (w_X8_find_0 hA ⟨fun _ => ⟨_, _, ct_noteCrease_no hA0 hC.1 hN.1 g, Or.inl rfl, rfl, rfl⟩, fun q => absurd rfl q⟩)), cm_find_no hB h39 hN (Or.inl ⟨rfl, rfl⟩) (by rw [if_pos rfl]; exact g), Or.inl rfl, Sm.rf⟩
    · rw [not_or, not_or, not_or, Classical.not_not] at g
      obtain ⟨g1, g2, g3, g4⟩ := g
      obtain ⟨i, hi31, rfl⟩ := nI_of g1
      have hi : i < N - 1 := by rw [nI_leI (by omega) hi31] at g2; omega
      have hz := val_cases (k := 3) (by omega) g3 g4
      obtain ⟨I1, F1, c1, c2, c3, c4, c5⟩ := ct_noteCrease (γ := γ) (l := l) (J := J) (i := i) (x := z) hA0 hC hN (by omega) (hz.imp id (fun ⟨v, h1, h2⟩ => ⟨v, by omega, h2⟩))
      have hV1 : V_fnd F1 := by
        rw [c5]
        intro j
        show (if j = i then (if z = -1 then 0 else z.toNatClampNeg) else fVc F j) < 4
        split
        · rcases hz with h | ⟨v, h1, h2⟩
          · rw [if_pos h]; omega
          · rw [h2, nI_clamp (by omega)]; split <;> omega
        · exact hV j
      have o1 : ∀ b j, ¬ (b = 116 ∧ j < 8) → I1 b j = I b j := fun b j q => c4 b j q
      refine ⟨I1, up (up I1 (169 + 38) i z) 169 59 0, 1, e_X8_find (rW_pure (w_X8_find_0 hA ⟨fun _ => ⟨_, _, c1, Or.inr rfl, rfl, rfl⟩, fun q => absurd rfl q⟩)), cm_find_0 hB ((o1 _ _ (by omega)).trans h39) hN (by omega) g3 g4, Or.inr ⟨F1, hV1, c2.loc (fun j hj => by simp [up_at]), ⟨fun j hj => ?_, fun j hj => ?_, fun j hj => ?_⟩, ?_, ?_⟩, ((c4.mono (fun b j q => p1 b j q)).up (by unfold Pfd; omega)).up (by unfold Pfd; omega)⟩
      · rw [up_at, if_neg (by omega), c5]
        show _ = if (if j = i then decide (¬ z = -1) else fKc F j) then nI (if j = i then (if z = -1 then 0 else z.toNatClampNeg) else fVc F j) else -1
        by_cases q : j = i
        · rw [up_at, if_pos ⟨rfl, q⟩, if_pos q, if_pos q]
          rcases hz with h | ⟨v, h1, h2⟩
          · simp [h]
          · have hne : ¬ z = -1 := by rw [h2]; exact nI_ne1 (by omega)
            rw [if_pos (by simp [hne]), if_neg hne, h2, nI_clamp (by omega)]
        · rw [up_at, if_neg (fun w => q w.2), if_neg q, if_neg q, o1 _ _ (by omega)]; exact hM.1 j hj
      · rw [up_at, if_neg (by omega), up_at, if_neg (by omega), o1 _ _ (by omega), c5]; exact hM.2.1 j hj
      · rw [up_at, if_neg (by omega), up_at, if_neg (by omega), o1 _ _ (by omega), c5]; exact hM.2.2 j hj
      · rw [up_at, if_neg (by omega), up_at, if_neg (by omega)]; exact c3
      · rw [up_at, if_pos ⟨rfl, rfl⟩]
  by_cases x1 : x = 1
  · subst x1
    by_cases g : y < 0 ∨ nI N ≤ y ∨ z < -1 ∨ ¬ z ≤ 1
    · exact ⟨I, I, 0, e_X8_find (rW_pure (w_X8_find_0 hA ⟨fun q => absurd q x0, fun _ => ⟨fun _ => ⟨_, _, ct_noteSlit_no hA0 hC.1 g, Or.inl rfl, rfl, rfl⟩, fun q => absurd rfl q⟩⟩)), cm_find_no hB h39 hN (Or.inr (Or.inl ⟨rfl, rfl⟩)) (by rw [if_neg x0]; exact g), Or.inl rfl, Sm.rf⟩
    · rw [not_or, not_or, not_or, Classical.not_not] at g
      obtain ⟨g1, g2, g3, g4⟩ := g
      obtain ⟨i, hi31, rfl⟩ := nI_of g1
      have hi : i < N := by rw [nI_leI (by omega) hi31] at g2; omega
      have hz : z = -1 ∨ z = 0 ∨ z = 1 := by
        rcases val_cases (k := 1) (by omega) g3 g4 with h | ⟨v, h1, h2⟩
        · exact Or.inl h
        · have : v = 0 ∨ v = 1 := by omega
          rcases this with e | e <;> rw [h2, e]
          · exact Or.inr (Or.inl rfl)
          · exact Or.inr (Or.inr rfl)
      obtain ⟨I1, F1, c1, c2, c3, c4, c5⟩ := ct_noteSlit (γ := γ) (l := l) (J := J) (i := i) (x := z) hA0 hC hN hi hz
      have hV1 : V_fnd F1 := by rw [c5]; exact hV
      have o1 : ∀ b j, ¬ (b = 116 ∧ j < 8) → I1 b j = I b j := fun b j q => c4 b j q
      refine ⟨I1, up (up I1 (169 + 39) i z) 169 59 0, 1, e_X8_find (rW_pure (w_X8_find_0 hA ⟨fun q => absurd q x0, fun _ => ⟨fun _ => ⟨_, _, c1, Or.inr rfl, rfl, rfl⟩, fun q => absurd rfl q⟩⟩)), cm_find_1 hB ((o1 _ _ (by omega)).trans h39) hN hi g3 g4, Or.inr ⟨F1, hV1, c2.loc (fun j hj => by simp [up_at]), ⟨fun j hj => ?_, fun j hj => ?_, fun j hj => ?_⟩, ?_, ?_⟩, ((c4.mono (fun b j q => p1 b j q)).up (by unfold Pfd; omega)).up (by unfold Pfd; omega)⟩
      · rw [up_at, if_neg (by omega), up_at, if_neg (by omega), o1 _ _ (by omega), c5]; exact hM.1 j hj
      · rw [up_at, if_neg (by omega), c5]
        show _ = if (if j = i then decide (¬ z = -1) else fKs F j) then nz (if j = i then decide (z = 1) else fVs F j) else -1
        by_cases q : j = i
        · rw [up_at, if_pos ⟨rfl, q⟩, if_pos q, if_pos q]
          rcases hz with h | h | h <;> rw [h] <;> decide
        · rw [up_at, if_neg (fun w => q w.2), if_neg q, if_neg q, o1 _ _ (by omega)]; exact hM.2.1 j hj
      · rw [up_at, if_neg (by omega), up_at, if_neg (by omega), o1 _ _ (by omega), c5]; exact hM.2.2 j hj
      · rw [up_at, if_neg (by omega), up_at, if_neg (by omega)]; exact c3
      · rw [up_at, if_pos ⟨rfl, rfl⟩]
  by_cases x2 : x = 2
  · subst x2
    by_cases g : y < 0 ∨ nI (2 * N) ≤ y ∨ z < -1 ∨ ¬ z ≤ 1
    · exact ⟨I, I, 0, e_X8_find (rW_pure (w_X8_find_0 hA ⟨fun q => absurd q x0, fun _ => ⟨fun q => absurd q x1, fun _ => ⟨fun _ => ⟨_, _, ct_noteDirt_no hA0 hC.1 g, Or.inl rfl, rfl, rfl⟩, fun q => absurd rfl q⟩⟩⟩)), cm_find_no hB h39 hN (Or.inr (Or.inr ⟨rfl, rfl⟩)) (by rw [if_neg x0]; exact g), Or.inl rfl, Sm.rf⟩
    · rw [not_or, not_or, not_or, Classical.not_not] at g
      obtain ⟨g1, g2, g3, g4⟩ := g
      obtain ⟨i, hi31, rfl⟩ := nI_of g1
      have hi : i < 2 * N := by rw [nI_leI (by omega) hi31] at g2; omega
      have hz : z = -1 ∨ z = 0 ∨ z = 1 := by
        rcases val_cases (k := 1) (by omega) g3 g4 with h | ⟨v, h1, h2⟩
        · exact Or.inl h
        · have : v = 0 ∨ v = 1 := by omega
          rcases this with e | e <;> rw [h2, e]
          · exact Or.inr (Or.inl rfl)
          · exact Or.inr (Or.inr rfl)
      obtain ⟨I1, F1, c1, c2, c3, c4, c5⟩ := ct_noteDirt (γ := γ) (l := l) (J := J) (i := i) (x := z) hA0 hC hN hi hz
      have hV1 : V_fnd F1 := by rw [c5]; exact hV
      have o1 : ∀ b j, ¬ (b = 116 ∧ j < 8) → I1 b j = I b j := fun b j q => c4 b j q
      refine ⟨I1, up (up I1 (169 + 40) i z) 169 59 0, 1, e_X8_find (rW_pure (w_X8_find_0 hA ⟨fun q => absurd q x0, fun _ => ⟨fun q => absurd q x1, fun _ => ⟨fun _ => ⟨_, _, c1, Or.inr rfl, rfl, rfl⟩, fun q => absurd rfl q⟩⟩⟩)), cm_find_2 hB ((o1 _ _ (by omega)).trans h39) hN hi g3 g4, Or.inr ⟨F1, hV1, c2.loc (fun j hj => by simp [up_at]), ⟨fun j hj => ?_, fun j hj => ?_, fun j hj => ?_⟩, ?_, ?_⟩, ((c4.mono (fun b j q => p1 b j q)).up (by unfold Pfd; omega)).up (by unfold Pfd; omega)⟩
      · rw [up_at, if_neg (by omega), up_at, if_neg (by omega), o1 _ _ (by omega), c5]; exact hM.1 j hj
      · rw [up_at, if_neg (by omega), up_at, if_neg (by omega), o1 _ _ (by omega), c5]; exact hM.2.1 j hj
      · rw [up_at, if_neg (by omega), c5]
        show _ = if (if j = i then decide (¬ z = -1) else fKd F j) then nz (if j = i then decide (z = 1) else fVd F j) else -1
        by_cases q : j = i
        · rw [up_at, if_pos ⟨rfl, q⟩, if_pos q, if_pos q]
          rcases hz with h | h | h <;> rw [h] <;> decide
        · rw [up_at, if_neg (fun w => q w.2), if_neg q, if_neg q, o1 _ _ (by omega)]; exact hM.2.2 j hj
      · rw [up_at, if_neg (by omega), up_at, if_neg (by omega)]; exact c3
      · rw [up_at, if_pos ⟨rfl, rfl⟩]
  · refine ⟨I, I, 0, e_X8_find (rW_pure (w_X8_find_0 hA ⟨fun q => absurd q x0, fun _ => ⟨fun q => absurd q x1, fun _ => ⟨fun q => absurd q x2, fun _ => ⟨rfl, rfl⟩⟩⟩⟩)), e_X9_find (rW_pure (w_X9_find_0 hB ⟨fun q => absurd q x0, fun _ => ⟨fun q => absurd q x1, fun _ => ⟨fun q => absurd q x2, fun _ => ?_⟩⟩⟩)), Or.inl rfl, Sm.rf⟩
    refine w_X9_find_40 hB ⟨fun _ => ⟨rfl, rfl⟩, fun q1 => ⟨fun _ => ⟨rfl, rfl⟩, fun q2 => absurd (Int32.not_lt.mp q1) q2⟩⟩
/-! forgets, finds -/
def noF : Fnd := ((fun _ => false), (fun _ => 0), (fun _ => false), (fun _ => false), (fun _ => false), (fun _ => false))
theorem ct_forgets (hA : At9 sh R m) : ∃ I', rMet γ l m_X9_forgets [.ref m] (sh, I, J, R) (sh, I', J, R) none ∧ (∀ N, N ≤ 8 → FdM I' m N noF) ∧ I' m 59 = 0 ∧ Sm (fun b j => b = m + 38 ∨ b = m + 39 ∨ b = m + 40 ∨ (b = m ∧ j = 59)) I I' := by
  have l2 : ∀ j k (I1 : Nat → Nat → Int32), k + j = 16 → (∀ i, i < 8 → I1 (m + 38) i = -1 ∧ I1 (m + 39) i = -1) → (∀ i, i < k → I1 (m + 40) i = -1) → Sm (fun b j => b = m + 38 ∨ b = m + 39 ∨ b = m + 40 ∨ (b = m ∧ j = 59)) I I1 → s_X9_forgets_30 γ l m (nI k) (sh, I1, J, R) (fun hf v => ∃ I', hf = (sh, I', J, R) ∧ v = none ∧ ((∀ N, N ≤ 8 → FdM I' m N noF) ∧ I' m 59 = 0 ∧ Sm (fun b j => b = m + 38 ∨ b = m + 39 ∨ b = m + 40 ∨ (b = m ∧ j = 59)) I I')) := by
    intro j
    induction j with
    | zero =>
      intro k I1 hk h1 h2 hS
      have e : k = 16 := by omega
      subst e
      refine w_X9_forgets_30 hA ⟨fun _ => ⟨_, rfl, rfl, fun N hN => ⟨fun i hi => ?_, fun i hi => ?_, fun i hi => ?_⟩, by rw [up_at, if_pos ⟨rfl, rfl⟩], hS.up (by simp)⟩, fun z => absurd (by decide) z⟩
      · rw [up_at, if_neg (by omega)]; exact (h1 i (by omega)).1
      · rw [up_at, if_neg (by omega)]; exact (h1 i (by omega)).2
      · rw [up_at, if_neg (by omega)]; exact h2 i (by omega)
    | succ j ih =>
      intro k I1 hk h1 h2 hS
      refine w_X9_forgets_30 hA ⟨fun z => absurd z (nI_ge (show k < 16 by omega) (by decide)), fun _ => ⟨vp_in_nI (by omega) (by decide), ?_⟩⟩
      rw [nI_clamp (by omega), nI_1]
      refine ih (k + 1) _ (by omega) (fun i hi => ⟨?_, ?_⟩) (fun i hi => ?_) (hS.up (by simp))
      · rw [up_at, if_neg (by omega)]; exact (h1 i hi).1
      · rw [up_at, if_neg (by omega)]; exact (h1 i hi).2
      · by_cases q : i = k
        · subst q; rw [up_at, if_pos ⟨rfl, rfl⟩]
        · rw [up_at, if_neg (by omega)]; exact h2 i (by omega)
  have l1 : ∀ j k (I1 : Nat → Nat → Int32), k + j = 8 → (∀ i, i < k → I1 (m + 38) i = -1 ∧ I1 (m + 39) i = -1) → Sm (fun b j => b = m + 38 ∨ b = m + 39 ∨ b = m + 40 ∨ (b = m ∧ j = 59)) I I1 → s_X9_forgets_2 γ l m (nI k) (sh, I1, J, R) (fun hf v => ∃ I', hf = (sh, I', J, R) ∧ v = none ∧ ((∀ N, N ≤ 8 → FdM I' m N noF) ∧ I' m 59 = 0 ∧ Sm (fun b j => b = m + 38 ∨ b = m + 39 ∨ b = m + 40 ∨ (b = m ∧ j = 59)) I I')) := by
    intro j
    induction j with
    | zero =>
      intro k I1 hk h1 hS
      have e : k = 8 := by omega
      subst e
      exact w_X9_forgets_2 hA ⟨fun _ => l2 16 0 I1 (by omega) h1 (fun i hi => by omega) hS, fun z => absurd (by decide) z⟩
    | succ j ih =>
      intro k I1 hk h1 hS
      have hv : vp_in (nI k) 8 := vp_in_nI (by omega) (by decide)
      refine w_X9_forgets_2 hA ⟨fun z => absurd z (nI_ge (show k < 8 by omega) (by decide)), fun _ => ⟨hv, hv, ?_⟩⟩
      rw [nI_clamp (by omega), nI_1]
      refine ih (k + 1) _ (by omega) (fun i hi => ?_) ((hS.up (by simp)).up (by simp))
      by_cases q : i = k
      · subst q; exact ⟨by rw [up_at, if_neg (by omega), up_at, if_pos ⟨rfl, rfl⟩], by rw [up_at, if_pos ⟨rfl, rfl⟩]⟩
      · exact ⟨by rw [up_at, if_neg (by omega), up_at, if_neg (by omega)]; exact (h1 i (by omega)).1, by rw [up_at, if_neg (by omega), up_at, if_neg (by omega)]; exact (h1 i (by omega)).2⟩
  obtain ⟨I', q1, q2⟩ := rW_ex (w_X9_forgets_0 hA (l1 8 0 I (by omega) (fun i hi => by omega) Sm.rf))
  exact ⟨I', e_X9_forgets q1, q2⟩
/-- all marks of the sheet, known -/
def allF (T : Sht) : Fnd := ((fun _ => true), (fun i => yC T / 2 ^ (2 * i) % 4), (fun _ => true), (fun i => decide (0 < yS T i)), (fun _ => true), fun f => (yD T).testBit f)
theorem mk_all (k : Nat) : mkN (fun _ => true) k = 2 ^ k - 1 := by
  apply Nat.eq_of_testBit_eq
  intro i
  rw [mkN_bit, Nat.testBit_two_pow_sub_one, Bool.and_true]
theorem pow_m1 {k : Nat} (hk : k < 31) : ((1 : Int32) <<< (nI k &&& 31)) - (1 : Int32) = nI (2 ^ k - 1) := by
  rw [bt_one hk]
  exact pk_sub (b := 1) (Nat.one_le_two_pow)
theorem crF_all (hV : V_sheet n T) : crF (yN T) (allF T) = yC T := by
  apply Nat.eq_of_testBit_eq
  intro j
  unfold crF
  rw [mkN_bit]
  show (decide (j < 2 * (yN T - 1)) && (true && (yC T / 2 ^ (2 * (j / 2)) % 4).testBit (j % 2))) = _
  rw [show (4 : Nat) = 2 ^ 2 from rfl, Nat.testBit_mod_two_pow, Nat.testBit_div_two_pow, show j % 2 + 2 * (j / 2) = j by omega]
  by_cases h : j < 2 * (yN T - 1)
  · have : j % 2 < 2 := by omega
    simp [h, this]
  · rw [bt_ge hV.2.2.2.1 j (by omega)]; simp
theorem diN_all (hV : V_sheet n T) : diN (yN T) (allF T) = yD T := by
  apply Nat.eq_of_testBit_eq
  intro j
  unfold diN
  rw [mkN_bit]
  show (decide (j < 2 * yN T) && (true && (yD T).testBit j)) = _
  by_cases h : j < 2 * yN T
  · simp [h]
  · rw [bt_ge hV.2.2.2.2.1 j (by omega)]; simp
theorem pc_finds (hA : At8 sh R 0) (hB : At9 sh R 169) (hn : n < 2 ^ 31) (hS : S_sheet n I T) (hC : FdC I 116 (yN T) F) : ∃ (I1 I2 : Nat → Nat → Int32), rMet γ l m_X8_finds [.ref 0] (sh, I, J, R) (sh, I1, J, R) none ∧ rMet γ l m_X9_finds [.ref 169] (sh, I1, J, R) (sh, I2, J, R) none ∧ (V_fnd (allF T) ∧ FdC I2 116 (yN T) (allF T) ∧ FdM I2 169 (yN T) (allF T) ∧ I2 116 7 = 0 ∧ I2 169 59 = 0) ∧ Sm Pfd I I2 := by
  have hA0 : At0 sh R 116 := (At8_3 hA).2
  have hA5 : At5 sh R 5 := (At8_2 hA).2
  obtain ⟨hV, hCs, hMs⟩ := id hS
  have h2 := hV.1
  have h8 := hV.2.1
  obtain ⟨h0, h1, h2', h3, h4, h5, h6⟩ := hC
  have ep : nI (yN T) - (1 : Int32) = nI (yN T - 1) := pk_sub (b := 1) (by omega)
  have eq1 : ((1 : Int32) <<< (nI (2 * (yN T - 1)) &&& 31)) - (1 : Int32) = nI (ckN (yN T) (allF T)) := by rw [pow_m1 (by omega)]; congr 1; exact (mk_all _).symm
  have eq2 : ((1 : Int32) <<< (nI (yN T) &&& 31)) - (1 : Int32) = nI (skN (yN T) (allF T)) := by rw [pow_m1 (by omega)]; congr 1; exact (mk_all _).symm
  have eq3 : ((1 : Int32) <<< (nI (2 * yN T) &&& 31)) - (1 : Int32) = nI (dkN (yN T) (allF T)) := by rw [pow_m1 (by omega)]; congr 1; exact (mk_all _).symm
  have e52 : I 5 2 = nI (yC T) := hCs.1.2.2.1
  have e53 : I 5 3 = nI (yD T) := hCs.1.2.2.2
  have key : s_X0_noteAll_0 γ l 116 5 (sh, I, J, R) (fun hf v => ∃ I', hf = (sh, I', J, R) ∧ v = none ∧ (FdC I' 116 (yN T) (allF T) ∧ I' 116 7 = 0 ∧ Sm (fun b j => b = 116 ∧ j < 8) I I')) := by
    have cs := ct_slitParts (γ := γ) (l := l) (J := J) (n := n) (T := T) (I := up (up (up I 116 1 (nI (ckN (yN T) (allF T)))) 116 2 (nI (yC T))) 116 3 (nI (skN (yN T) (allF T)))) hA5 hV hn (hCs.loc hV.2.2.1 (fun b j q _ => by unfold Fc at q; rw [up_at, if_neg (by omega), up_at, if_neg (by omega), up_at, if_neg (by omega)]))
    refine w_X0_noteAll_0 hA0 hA5 ?_
    simp only [up_at, h0, ep, show (2 : Int32) * nI (yN T - 1) = nI (2 * (yN T - 1)) from pk_mul 2 _, show (2 : Int32) * nI (yN T) = nI (2 * yN T) from pk_mul 2 _, eq1, eq2, eq3, e52, e53, show ¬ (5 : Nat) = 116 from by decide, show ¬ (0 : Nat) = 2 from by decide, show ¬ (0 : Nat) = 1 from by decide, show ¬ (0 : Nat) = 3 from by decide, show ¬ (0 : Nat) = 4 from by decide, false_and, and_false, if_false]
    refine ⟨_, cs, _, rfl, trivial, ⟨?_, ?_, ?_, ?_, ?_, ?_, ?_⟩, ?_, ?_⟩
    · simp [up_at, h0]
    · simp [up_at]
    · simp [up_at, crF_all hV]
    · simp [up_at]
    · simp [up_at]
      show nI (mkN (fun p => decide (0 < yS T p)) (yN T)) = nI (mkN (fun i => true && decide (0 < yS T i)) (yN T))
      simp
    · simp [up_at]
    · simp [up_at, diN_all hV]
    · simp [up_at]
    · exact ((((((Sm.rf.up (by simp)).up (by simp)).up (by simp)).up (by simp)).up (by simp)).up (by simp)).up (by simp)
  obtain ⟨I1, c1, c2, c3, c4⟩ := rW_ex key
  have hM1 : M_sheet I1 169 T := hMs.loc hV (fun b j q _ => c4 b j (by unfold Fm at q; omega))
  obtain ⟨I2, d1, d2, d3, d4⟩ := ct_forgets (γ := γ) (l := l) (I := I1) (J := J) hB
  have hM2 : M_sheet I2 169 T := hM1.loc hV (fun b j q _ => d4 b j (by unfold Fm at q; omega))
  have k3 : ∀ j k (I3 : Nat → Nat → Int32), k + j = 2 * yN T → M_sheet I3 169 T → (∀ i, i + 1 < yN T → I3 (169 + 38) i = nI (yC T / 2 ^ (2 * i) % 4)) → (∀ i, i < yN T → I3 (169 + 39) i = nz (decide (0 < yS T i))) → (∀ f, f < k → I3 (169 + 40) f = nz ((yD T).testBit f)) → I3 169 59 = 0 → Sm (fun b j => b = 169 + 38 ∨ b = 169 + 39 ∨ b = 169 + 40 ∨ (b = 169 ∧ j = 59)) I1 I3 → s_X9_finds_72 γ l 169 (nI k) (sh, I3, J, R) (fun hf v => ∃ I', hf = (sh, I', J, R) ∧ v = none ∧ (FdM I' 169 (yN T) (allF T) ∧ I' 169 59 = 0 ∧ Sm (fun b j => b = 169 + 38 ∨ b = 169 + 39 ∨ b = 169 + 40 ∨ (b = 169 ∧ j = 59)) I1 I')) := by
    intro j
    induction j with
    | zero =>
      intro k I3 hk hm g1 g2 g3 g4 hS3
      refine w_X9_finds_72 hB ⟨fun _ => ⟨I3, rfl, rfl, ⟨fun i hi => g1 i hi, fun i hi => g2 i hi, fun f hf => g3 f (by omega)⟩, g4, hS3⟩, fun z => absurd ?_ z⟩
      rw [hm.1.1, show (2 : Int32) * nI (yN T) = nI (2 * yN T) from pk_mul 2 _]; exact nI_le (by omega) (by omega)
    | succ j ih =>
      intro k I3 hk hm g1 g2 g3 g4 hS3
      have hv : vp_in (nI k) 16 := vp_in_nI (by omega) (by decide)
      have st : ∀ w : Int32, w = nz ((yD T).testBit k) → s_X9_finds_72 γ l 169 (nI (k + 1)) (sh, up I3 (169 + 40) k w, J, R) (fun hf v => ∃ I', hf = (sh, I', J, R) ∧ v = none ∧ (FdM I' 169 (yN T) (allF T) ∧ I' 169 59 = 0 ∧ Sm (fun b j => b = 169 + 38 ∨ b = 169 + 39 ∨ b = 169 + 40 ∨ (b = 169 ∧ j = 59)) I1 I')) := by
        intro w hw
        refine ih (k + 1) _ (by omega) (hm.loc hV (fun b j q _ => by unfold Fm at q; rw [up_at, if_neg (by omega)])) (fun i hi => by rw [up_at, if_neg (by omega)]; exact g1 i hi) (fun i hi => by rw [up_at, if_neg (by omega)]; exact g2 i hi) (fun f hf => ?_) (by rw [up_at, if_neg (by omega)]; exact g4) (hS3.up (by simp))
        by_cases q : f = k
        · subst q; rw [up_at, if_pos ⟨rfl, rfl⟩, hw]
        · rw [up_at, if_neg (by omega)]; exact g3 f (by omega)
      refine w_X9_finds_72 hB ⟨fun z => absurd z ?_, fun _ => ⟨hv, ?_⟩⟩
      · rw [hm.1.1, show (2 : Int32) * nI (yN T) = nI (2 * yN T) from pk_mul 2 _]; exact nI_ge (by omega) (by omega)
      · rw [nI_clamp (by omega), hm.2.2.1 k (by omega), nz_0, nI_1]
        refine ⟨fun z => ⟨hv, st _ ?_⟩, fun z => ⟨hv, st _ ?_⟩⟩
        · rw [z]; rfl
        · rw [show (yD T).testBit k = true by simpa using z]; rfl
  have k2 : ∀ j k (I3 : Nat → Nat → Int32), k + j = yN T → M_sheet I3 169 T → (∀ i, i + 1 < yN T → I3 (169 + 38) i = nI (yC T / 2 ^ (2 * i) % 4)) → (∀ i, i < k → I3 (169 + 39) i = nz (decide (0 < yS T i))) → I3 169 59 = 0 → Sm (fun b j => b = 169 + 38 ∨ b = 169 + 39 ∨ b = 169 + 40 ∨ (b = 169 ∧ j = 59)) I1 I3 → s_X9_finds_36 γ l 169 (nI k) (sh, I3, J, R) (fun hf v => ∃ I', hf = (sh, I', J, R) ∧ v = none ∧ (FdM I' 169 (yN T) (allF T) ∧ I' 169 59 = 0 ∧ Sm (fun b j => b = 169 + 38 ∨ b = 169 + 39 ∨ b = 169 + 40 ∨ (b = 169 ∧ j = 59)) I1 I')) := by
    intro j
    induction j with
    | zero =>
      intro k I3 hk hm g1 g2 g4 hS3
      have e : k = yN T := by omega
      subst e
      refine w_X9_finds_36 hB ⟨fun _ => ?_, fun z => absurd (by rw [hm.1.1]; exact nI_le (Nat.le_refl _) (by omega)) z⟩
      have := k3 (2 * yN T) 0 I3 (by omega) hm g1 g2 (fun f hf => by omega) g4 hS3
      rw [nI_0] at this
      exact this
    | succ j ih =>
      intro k I3 hk hm g1 g2 g4 hS3
      have hv : vp_in (nI k) 8 := vp_in_nI (by omega) (by decide)
      have hs := hV.2.2.2.2.2.2.1 k (by omega)
      have st : ∀ w : Int32, w = nz (decide (0 < yS T k)) → s_X9_finds_36 γ l 169 (nI (k + 1)) (sh, up I3 (169 + 39) k w, J, R) (fun hf v => ∃ I', hf = (sh, I', J, R) ∧ v = none ∧ (FdM I' 169 (yN T) (allF T) ∧ I' 169 59 = 0 ∧ Sm (fun b j => b = 169 + 38 ∨ b = 169 + 39 ∨ b = 169 + 40 ∨ (b = 169 ∧ j = 59)) I1 I')) := by
        intro w hw
        refine ih (k + 1) _ (by omega) (hm.loc hV (fun b j q _ => by unfold Fm at q; rw [up_at, if_neg (by omega)])) (fun i hi => by rw [up_at, if_neg (by omega)]; exact g1 i hi) (fun i hi => ?_) (by rw [up_at, if_neg (by omega)]; exact g4) (hS3.up (by simp))
        by_cases q : i = k
        · subst q; rw [up_at, if_pos ⟨rfl, rfl⟩, hw]
        · rw [up_at, if_neg (by omega)]; exact g2 i (by omega)
      refine w_X9_finds_36 hB ⟨fun z => absurd z (by rw [hm.1.1]; exact nI_ge (by omega) (by omega)), fun _ => ⟨hv, ?_⟩⟩
      rw [nI_clamp (by omega), (hm.2.1 k (by omega)).2.1, nI_1]
      refine ⟨fun z => ⟨hv, st _ ?_⟩, fun z => ⟨hv, st _ ?_⟩⟩
      · have h00 : ¬ 0 < yS T k := fun q => nI_nle q (by omega) z
        rw [show decide (0 < yS T k) = false by simpa using h00]; rfl
      · have h00 : 0 < yS T k := by
          rcases Nat.eq_zero_or_pos (yS T k) with q | q
          · rw [q] at z; exact absurd (by decide) z
          · exact q
        rw [show decide (0 < yS T k) = true by simpa using h00]; rfl
  have k1 : ∀ j k (I3 : Nat → Nat → Int32), k + j + 1 = yN T → M_sheet I3 169 T → (∀ i, i < k → I3 (169 + 38) i = nI (yC T / 2 ^ (2 * i) % 4)) → I3 169 59 = 0 → Sm (fun b j => b = 169 + 38 ∨ b = 169 + 39 ∨ b = 169 + 40 ∨ (b = 169 ∧ j = 59)) I1 I3 → s_X9_finds_6 γ l 169 (nI k) (sh, I3, J, R) (fun hf v => ∃ I', hf = (sh, I', J, R) ∧ v = none ∧ (FdM I' 169 (yN T) (allF T) ∧ I' 169 59 = 0 ∧ Sm (fun b j => b = 169 + 38 ∨ b = 169 + 39 ∨ b = 169 + 40 ∨ (b = 169 ∧ j = 59)) I1 I')) := by
    intro j
    induction j with
    | zero =>
      intro k I3 hk hm g1 g4 hS3
      refine w_X9_finds_6 hB ⟨fun _ => ?_, fun z => absurd (by rw [hm.1.1, nI_1]; exact nI_le (by omega) (by omega)) z⟩
      have := k2 (yN T) 0 I3 (by omega) hm (fun i hi => g1 i (by omega)) (fun i hi => by omega) g4 hS3
      rw [nI_0] at this
      exact this
    | succ j ih =>
      intro k I3 hk hm g1 g4 hS3
      have hv : vp_in (nI k) 8 := vp_in_nI (by omega) (by decide)
      refine w_X9_finds_6 hB ⟨fun z => absurd z (by rw [hm.1.1, nI_1]; exact nI_ge (by omega) (by omega)), fun _ => ⟨hv, hv, ?_⟩⟩
      rw [nI_clamp (by omega), (hm.2.1 k (by omega)).1, nI_1]
      refine ih (k + 1) _ (by omega) (hm.loc hV (fun b j q _ => by unfold Fm at q; rw [up_at, if_neg (by omega)])) (fun i hi => ?_) (by rw [up_at, if_neg (by omega)]; exact g4) (hS3.up (by simp))
      by_cases q : i = k
      · subst q; rw [up_at, if_pos ⟨rfl, rfl⟩]
      · rw [up_at, if_neg (by omega)]; exact g1 i (by omega)
  have l0 := k1 (yN T - 1) 0 I2 (by omega) hM2 (fun i hi => by omega) d3 d4
  rw [nI_0] at l0
  obtain ⟨I4, f1, f2, f3, f4⟩ := rW_ex (w_X9_finds_0 hB ⟨I2, d1, l0⟩)
  refine ⟨I1, I4, e_X8_finds (rW_pure (w_X8_finds_0 hA ⟨I1, e_X0_noteAll c1, rfl, rfl⟩)), e_X9_finds f1, ⟨fun i => Nat.mod_lt _ (by omega), c2.loc (fun j hj => f4 _ _ (by omega)), f2, (f4 _ _ (by omega)).trans c3, f3⟩, (c4.mono (fun b j q => Or.inl q)).tr (f4.mono (fun b j q => by omega))⟩
end PR4
