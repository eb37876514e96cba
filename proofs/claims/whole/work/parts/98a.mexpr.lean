/-! ===== the model's reader: where it stops; kinds and sorts ===== -/
theorem stop_eq {f : Nat → Int32} {n k : Nat} (hk : k ≤ stopK f n) (h : stopB f n k = true) : k = stopK f n := by
  rcases Nat.lt_or_ge k (stopK f n) with q | q
  · have := seek_no (stopB f n) 400 0 k (by omega) (by unfold stopK at q; omega)
    rw [h] at this
    exact absurd this (by decide)
  · omega
theorem stop_end {f : Nat → Int32} {n k : Nat} (hk : k ≤ stopK f n) (h0 : (tokA f n k).1 = 0) : k = stopK f n ∧ ansA f n = (if qw (qA f n k) = 0 then 0 else 1) := by
  have e := stop_eq hk (by unfold stopB; rw [decide_eq_true h0]; rfl)
  refine ⟨e, ?_⟩
  unfold ansA
  rw [← e, if_pos h0]
theorem stop_fau {f : Nat → Int32} {n k c : Nat} (hk : k ≤ stopK f n) (h0 : (tokA f n k).1 ≠ 0) (hf : fauA (qA f n k) (tokA f n k).1 k = c) (hc : c ≠ 0) : k = stopK f n ∧ ansA f n = c := by
  have e := stop_eq hk (by unfold stopB; rw [Bool.or_eq_true]; exact Or.inr (decide_eq_true (by rw [hf]; exact hc)))
  refine ⟨e, ?_⟩
  unfold ansA
  rw [← e, if_neg h0]
  exact hf
theorem stop_on {f : Nat → Int32} {n k : Nat} (hk : k ≤ stopK f n) (h0 : (tokA f n k).1 ≠ 0) (hf : fauA (qA f n k) (tokA f n k).1 k = 0) : k + 1 ≤ stopK f n ∧ k < 400 := by
  have hs := (stop_at (f := f) (n := n)).2
  have h4 := (fau0 hf).2.1
  rcases Nat.lt_or_ge k (stopK f n) with q | q
  · exact ⟨q, h4⟩
  · have e : k = stopK f n := by omega
    rw [← e] at hs
    unfold stopB at hs
    rw [Bool.or_eq_true] at hs
    rcases hs with y | y
    · exact absurd (of_decide_eq_true y) h0
    · exact absurd hf (of_decide_eq_true y)
/-- nothing stops ahead of it: a token that does not go on -/
theorem stop_no {f : Nat → Int32} {n k : Nat} (hk : k ≤ stopK f n) (hw : qw (qA f n k) ≠ 0) (hg : (tokA f n k).1 = 0 ∨ goB (qA f n k) (tokA f n k).1 = false) : k = stopK f n ∧ ansA f n = 1 := by
  by_cases h0 : (tokA f n k).1 = 0
  · obtain ⟨e1, e2⟩ := stop_end hk h0
    rw [if_neg hw] at e2
    exact ⟨e1, e2⟩
  · refine stop_fau hk h0 (c := 1) ?_ (by decide)
    unfold fauA
    rw [if_pos (hg.resolve_left h0)]
theorem KR_f {kd s v : Nat} (h : KR kd s v) (ht : TkOk s v) : kd < 40 ∧ (kd = 6 ↔ s = 8) ∧ (kd = 2 ↔ s = 2) ∧ ((29 ≤ kd ∧ kd ≤ 33) ↔ s = 3) ∧ (s = 3 → kd = 29 + v) ∧ (kd = 7 ↔ s = 7) ∧ (kd = 8 ↔ s = 15) ∧ (kd = 9 ↔ s = 16) ∧ (kd = 10 ↔ s = 17) ∧ (kd = 21 ↔ s = 5) ∧ (kd = 4 ↔ s = 6) ∧ (kd = 27 ↔ s = 9) ∧ (kd = 28 ↔ s = 10) ∧ ((11 ≤ kd ∧ kd ≤ 14) ↔ (11 ≤ s ∧ s ≤ 14)) ∧ (11 ≤ s ∧ s ≤ 14 → kd = s) ∧ (kd = 0 ↔ s = 0) ∧ ((kd = 20 ∨ (22 ≤ kd ∧ kd ≤ 26)) ↔ s = 4) ∧ (s = 4 → v = if kd = 20 then 0 else kd - 21) := by
  obtain ⟨t1, t2, t3, t4⟩ := ht
  rcases h with ⟨h1, h2⟩ | ⟨h1, h2⟩
  · subst h1
    omega
  · have hs : s = 0 ∨ s = 2 ∨ s = 3 ∨ s = 4 ∨ s = 5 ∨ s = 6 ∨ s = 7 ∨ s = 8 ∨ s = 9 ∨ s = 10 ∨ s = 11 ∨ s = 12 ∨ s = 13 ∨ s = 14 ∨ s = 15 ∨ s = 16 ∨ s = 17 := by omega
    rcases hs with e | e | e | e | e | e | e | e | e | e | e | e | e | e | e | e | e
    · subst e; have h2 : kd = 0 := h2; subst h2; omega
    · subst e; have h2 : kd = 2 := h2; subst h2; omega
    · subst e; have h2 : kd = 29 + v := h2; have := t3 rfl; subst h2; omega
    · subst e
      have h2 : kd = if v = 0 then 20 else 21 + v := h2
      have := t4 rfl
      by_cases hv : v = 0
      · rw [if_pos hv] at h2; subst h2; subst hv; simp
      · rw [if_neg hv] at h2; subst h2
        rw [if_neg (show ¬ 21 + v = 20 by omega)]
        omega
    all_goals (subst e)
    · have h2 : kd = 21 := h2; subst h2; omega
    · have h2 : kd = 4 := h2; subst h2; omega
    · have h2 : kd = 7 := h2; subst h2; omega
    · have h2 : kd = 6 := h2; subst h2; omega
    · have h2 : kd = 27 := h2; subst h2; omega
    · have h2 : kd = 28 := h2; subst h2; omega
    · have h2 : kd = 11 := h2; subst h2; omega
    · have h2 : kd = 12 := h2; subst h2; omega
    · have h2 : kd = 13 := h2; subst h2; omega
    · have h2 : kd = 14 := h2; subst h2; omega
    · have h2 : kd = 8 := h2; subst h2; omega
    · have h2 : kd = 9 := h2; subst h2; omega
    · have h2 : kd = 10 := h2; subst h2; omega
/-- the tokens as far as the reader goes -/
def TkT (I : Nat → Nat → Int32) (m : Nat) (f : Nat → Int32) (n : Nat) : Prop := ∀ j, j ≤ stopK f n → TkM I m f n j
def Fex (m base lim : Nat) : Nat → Nat → Prop := fun b j => (b = m ∧ (j = 11 ∨ j = 12 ∨ j = 13 ∨ j = 14 ∨ j = 32 ∨ j = 36)) ∨ ((b = m + 20 ∨ b = m + 21) ∧ base ≤ j ∧ j < lim) ∨ b = m + 22
theorem TkT.fr {I I' : Nat → Nat → Int32} {m n : Nat} {f : Nat → Int32} (h : TkT I m f n) (hq : ∀ b j, b = m + 3 ∨ b = m + 4 ∨ b = m + 5 → I' b j = I b j) : TkT I' m f n := by
  intro j hj
  obtain ⟨kd, h1, h2, h3, h4⟩ := h j hj
  exact ⟨kd, (hq _ _ (by omega)).trans h1, h2, (hq _ _ (by omega)).trans h3, fun z => (hq _ _ (by omega)).trans (h4 z)⟩
/-- a fault on record: the answer, and its place -/
def FltM (I : Nat → Nat → Int32) (m : Nat) (f : Nat → Int32) (n : Nat) : Prop := I m 13 = nI (ansA f n) ∧ I m 14 = nI (stA f n (stopK f n)) ∧ 0 < ansA f n ∧ ansA f n ≤ 2
theorem FltM.fr {I I' : Nat → Nat → Int32} {m n : Nat} {f : Nat → Int32} (h : FltM I m f n) (hq : ∀ j, j = 13 ∨ j = 14 → I' m j = I m j) : FltM I' m f n := ⟨(hq _ (by omega)).trans h.1, (hq _ (by omega)).trans h.2.1, h.2.2⟩
theorem FltM.ne {I : Nat → Nat → Int32} {m n : Nat} {f : Nat → Int32} (h : FltM I m f n) : I m 13 ≠ 0 ∧ ¬ I m 13 ≤ 0 := by
  obtain ⟨h1, _, h3, h4⟩ := h
  rw [h1]
  exact ⟨nI_ne0 h3 (by omega), nI_nle h3 (by omega)⟩
section MEX
variable {γ : rG} {l : Launch} {sh : Nat × (Nat → Nat) × (Nat → Nat)} {I : Nat → Nat → Int32} {J : Nat → Nat → Int64} {R : Nat → Nat → Option Nat} {m n k c : Nat} {f : Nat → Int32}
/-- a fault is told at the token where the reader stops -/
theorem ct_failK (hA : At9 sh R m) (hT : TkT I m f n) (h13 : I m 13 = 0) (h11 : I m 11 = nI k) (hk : k = stopK f n) (hc : ansA f n = c) (h1 : 0 < c ∧ c ≤ 2) : ∃ I', rMet γ l m_X9_fail [.ref m, .int (nI c)] (sh, I, J, R) (sh, I', J, R) none ∧ FltM I' m f n ∧ Sm (fun b j => b = m ∧ (j = 13 ∨ j = 14)) I I' := by
  have hK := (stop_at (f := f) (n := n)).1
  obtain ⟨kd, _, _, t3, _⟩ := hT k (by omega)
  refine ⟨_, ct_fail0 hA h13 h11 (by omega) (nI c), ⟨?_, ?_, by omega, by omega⟩, (Sm.rf.up ⟨rfl, Or.inl rfl⟩).up ⟨rfl, Or.inr rfl⟩⟩
  · rw [up_at, if_neg (by omega), up_at, if_pos ⟨rfl, rfl⟩, hc]
  · rw [up_at, if_pos ⟨rfl, rfl⟩, t3, hk]
/-- a token that goes on is passed; or the text is too long there -/
theorem ct_nextK (hA : At9 sh R m) (hT : TkT I m f n) (h13 : I m 13 = 0) (h11 : I m 11 = nI k) (hk : k ≤ stopK f n) (h0 : (tokA f n k).1 ≠ 0) (hg : goB (qA f n k) (tokA f n k).1 = true) (h4 : (tokA f n k).1 = 4 → (qn (qA f n k)).length < 16) (h8 : (tokA f n k).1 = 8 → qd (qA f n k) < 6) : ∃ I', rMet γ l m_X9_next [.ref m] (sh, I, J, R) (sh, I', J, R) none ∧ Sm (fun b j => b = m ∧ (j = 11 ∨ j = 13 ∨ j = 14)) I I' ∧ ((FltM I' m f n ∧ I' m 11 = nI k) ∨ (I' m 13 = 0 ∧ I' m 11 = nI (k + 1) ∧ k + 1 ≤ stopK f n ∧ fauA (qA f n k) (tokA f n k).1 k = 0)) := by
  have hK := (stop_at (f := f) (n := n)).1
  by_cases h400 : k < 400
  · have hf : fauA (qA f n k) (tokA f n k).1 k = 0 := by
      unfold fauA
      rw [if_neg (by rw [hg]; decide), if_neg (by omega)]
    refine ⟨_, ct_next1 hA h11 h400, Sm.rf.up ⟨rfl, Or.inl rfl⟩, Or.inr ⟨?_, by rw [up_at, if_pos ⟨rfl, rfl⟩], (stop_on hk h0 hf).1, hf⟩⟩
    rw [up_at, if_neg (by omega)]; exact h13
  · have e : k = 400 := by omega
    subst e
    have hf : fauA (qA f n 400) (tokA f n 400).1 400 = 2 := by
      unfold fauA
      rw [if_neg (by rw [hg]; decide), if_pos (Or.inl (Nat.le_refl _))]
    obtain ⟨e1, e2⟩ := stop_fau hk h0 hf (by decide)
    obtain ⟨kd, _, _, t3, _⟩ := hT 400 hk
    refine ⟨_, ct_next4 hA h11 h13, (Sm.rf.up ⟨rfl, by omega⟩).up ⟨rfl, by omega⟩, Or.inl ⟨⟨?_, ?_, by omega, by omega⟩, ?_⟩⟩
    · rw [up_at, if_neg (by omega), up_at, if_pos ⟨rfl, rfl⟩, e2]; rfl
    · rw [up_at, if_pos ⟨rfl, rfl⟩, t3, ← e1]
    · rw [up_at, if_neg (by omega), up_at, if_neg (by omega)]; exact h11
end MEX
