/-! ===== parts that hang together; the class's and the model's test are one ===== -/
def PkA (P : Pk) : Prop := ∀ i, i + 1 < pN P → (pC P i = pC P (i + 1) ∧ pU P i = true ∧ pU P (i + 1) = false) ∨ (pC P i = pC P (i + 1) ∧ pU P i = false ∧ pU P (i + 1) = true) ∨ (pU P i = true ∧ pU P (i + 1) = true ∧ pC P (i + 1) = pC P i + 1) ∨ (pU P i = false ∧ pU P (i + 1) = false ∧ pC P (i + 1) + 1 = pC P i)
section GEO
variable {P : Pk}
theorem PkV.A (hP : PkV P) : PkA P := by
  intro i hi
  rcases hP.2.2.2.2.2.2.2 i hi with ⟨q1, q2⟩ | ⟨q1, q2⟩
  · cases u : pU P i
    · rw [u] at q1 q2
      exact Or.inr (Or.inr (Or.inr ⟨rfl, q1.symm, by simp at q2; omega⟩))
    · rw [u] at q1 q2
      exact Or.inr (Or.inr (Or.inl ⟨rfl, q1.symm, by simp at q2; omega⟩))
  · cases u : pU P i
    · rw [u] at q1
      exact Or.inr (Or.inl ⟨q2, rfl, by cases w : pU P (i + 1); rw [w] at q1; exact absurd rfl q1; rfl⟩)
    · rw [u] at q1
      exact Or.inl ⟨q2, rfl, by cases w : pU P (i + 1); rfl; rw [w] at q1; exact absurd rfl q1⟩
theorem lay_ne (hP : PkV P) {p q : Nat} (hp : p < pN P) (hq : q < pN P) (h : p ≠ q) (hc : pC P p = pC P q) : pL P p ≠ pL P q := fun z => h (hP.2.2.2.2.2.1 p q hp hq hc z)
theorem crs_t {i : Nat} (h : pC P i = pC P (i + 1)) : crs P i = true := by unfold crs; exact beq_iff_eq.mpr h
theorem crs_f {i : Nat} (h : ¬ pC P i = pC P (i + 1)) : crs P i = false := by unfold crs; exact beq_eq_false_iff_ne.mpr h
theorem geo1 (hP : PkV P) (hA : PkA P) {i j : Nat} (hij : i ≠ j) (hi : i + 1 < pN P) (hj : j + 1 < pN P) (ci : pC P i = pC P (i + 1)) (cj : pC P j = pC P (j + 1)) : (lin P i = lin P j ∧ Clash P i j) ↔ B1 P i j := by
  have ai := hA i hi
  have aj := hA j hj
  have cl : Clash P i j ↔ (pC P i = pC P j ∧ ¬ (Bt P i j ↔ Bt P i (j + 1))) := by unfold Clash; rw [crs_t ci, crs_t cj]; exact Iff.rfl
  have l1 : lin P i = if pU P i then pC P i + 1 else pC P i := by unfold lin; rw [crs_t ci]; rfl
  have l2 : lin P j = if pU P j then pC P j + 1 else pC P j := by unfold lin; rw [crs_t cj]; rfl
  rw [cl, l1, l2]
  by_cases hc : pC P i = pC P j
  · by_cases hu : pU P i = pU P j
    · have n1 : i ≠ j + 1 := by
        intro z
        rw [z] at hu
        rcases aj with ⟨_, u1, u2⟩ | ⟨_, u1, u2⟩ | ⟨_, _, e⟩ | ⟨_, _, e⟩
        · rw [u1, u2] at hu; exact absurd hu (by decide)
        · rw [u1, u2] at hu; exact absurd hu (by decide)
        · omega
        · omega
      have n2 : i + 1 ≠ j := by
        intro z
        rw [← z] at hu
        rcases ai with ⟨_, u1, u2⟩ | ⟨_, u1, u2⟩ | ⟨_, _, e⟩ | ⟨_, _, e⟩
        · rw [u1, u2] at hu; exact absurd hu (by decide)
        · rw [u1, u2] at hu; exact absurd hu (by decide)
        · omega
        · omega
      have d1 := lay_ne hP (show i < pN P by omega) (show j < pN P by omega) hij hc
      have d2 := lay_ne hP (show i < pN P by omega) (show j + 1 < pN P by omega) n1 (hc.trans cj)
      have d3 := lay_ne hP (show i + 1 < pN P by omega) (show j < pN P by omega) n2 (ci.symm.trans hc)
      have d4 := lay_ne hP (show i + 1 < pN P by omega) (show j + 1 < pN P by omega) (by omega) (ci.symm.trans (hc.trans cj))
      have d5 := lay_ne hP (show i < pN P by omega) (show i + 1 < pN P by omega) (by omega) ci
      have d6 := lay_ne hP (show j < pN P by omega) (show j + 1 < pN P by omega) (by omega) cj
      have key : (¬ (Bt P i j ↔ Bt P i (j + 1))) ↔ ¬ ((lwL P i < lwL P j ∧ lwL P j < hgL P i) ↔ (lwL P i < hgL P j ∧ hgL P j < hgL P i)) := by
        unfold Bt lwL hgL
        by_cases q1 : pL P i < pL P (i + 1) <;> by_cases q2 : pL P j < pL P (j + 1)
        · rw [if_pos q1, if_pos q2, if_pos q1, if_pos q2]; omega
        · rw [if_pos q1, if_neg q2, if_pos q1, if_neg q2]; omega
        · rw [if_neg q1, if_pos q2, if_neg q1, if_pos q2]; omega
        · rw [if_neg q1, if_neg q2, if_neg q1, if_neg q2]; omega
      unfold B1
      constructor
      · intro h; exact ⟨⟨hi, ci⟩, ⟨hj, cj⟩, hc, hu, key.mp h.2.2⟩
      · intro h; exact ⟨by rw [hu, hc], hc, key.mpr h.2.2.2.2⟩
    · constructor
      · intro h
        exfalso
        have h1 := h.1
        rw [hc] at h1
        cases e1 : pU P i <;> cases e2 : pU P j <;> rw [e1, e2] at h1 hu <;> simp at h1 hu
      · intro h; exact absurd h.2.2.2.1 hu
  · constructor
    · intro h; exact absurd h.2.1 hc
    · intro h; exact absurd h.2.2.1 hc
theorem lin_flat {i : Nat} (h : ¬ pC P i = pC P (i + 1)) : lin P i = if pC P i < pC P (i + 1) then pC P (i + 1) else pC P i := by unfold lin; rw [crs_f h]; rfl
theorem lin_c (hA : PkA P) {i : Nat} (hi : i + 1 < pN P) (ci : pC P i = pC P (i + 1)) : (pU P i = true ∧ pU P (i + 1) = false ∧ lin P i = pC P i + 1) ∨ (pU P i = false ∧ pU P (i + 1) = true ∧ lin P i = pC P i) := by
  have l1 : lin P i = if pU P i then pC P i + 1 else pC P i := by unfold lin; rw [crs_t ci]; rfl
  rcases hA i hi with ⟨_, w1, w2⟩ | ⟨_, w1, w2⟩ | ⟨_, _, e5⟩ | ⟨_, _, e5⟩
  · left; rw [w1] at l1; exact ⟨w1, w2, l1⟩
  · right; rw [w1] at l1; exact ⟨w1, w2, l1⟩
  · omega
  · omega
theorem lin_f (hA : PkA P) {j : Nat} (hj : j + 1 < pN P) (cj : ¬ pC P j = pC P (j + 1)) : (pU P j = true ∧ pU P (j + 1) = true ∧ pC P (j + 1) = pC P j + 1 ∧ lin P j = pC P (j + 1)) ∨ (pU P j = false ∧ pU P (j + 1) = false ∧ pC P (j + 1) + 1 = pC P j ∧ lin P j = pC P j) := by
  have l1 := lin_flat cj
  rcases hA j hj with ⟨e5, _, _⟩ | ⟨e5, _, _⟩ | ⟨w1, w2, e5⟩ | ⟨w1, w2, e5⟩
  · exact absurd e5 cj
  · exact absurd e5 cj
  · left; rw [if_pos (by omega)] at l1; exact ⟨w1, w2, e5, l1⟩
  · right; rw [if_neg (by omega)] at l1; exact ⟨w1, w2, e5, l1⟩
theorem bno {b : Bool} (h1 : b = true) (h2 : b = false) : False := by rw [h1] at h2; exact absurd h2 (by decide)
theorem mn_u {k : Nat} (h : pC P (k + 1) = pC P k + 1) : mnC P k = pC P k ∧ lfP P k = k ∧ rtP P k = k + 1 := by
  have e1 : mnC P k = pC P k := if_pos (by omega)
  have e2 : lfP P k = k := if_pos e1.symm
  exact ⟨e1, e2, by unfold rtP; omega⟩
theorem mn_d {k : Nat} (h : pC P (k + 1) + 1 = pC P k) : mnC P k = pC P (k + 1) ∧ lfP P k = k + 1 ∧ rtP P k = k := by
  have e1 : mnC P k = pC P (k + 1) := if_neg (by omega)
  have e2 : lfP P k = k + 1 := if_neg (by omega)
  exact ⟨e1, e2, by unfold rtP; omega⟩
theorem b2_iff {i j : Nat} (hi : i + 1 < pN P) (hj : j + 1 < pN P) (ci : ¬ pC P i = pC P (i + 1)) (cj : ¬ pC P j = pC P (j + 1)) : B2 P i j ↔ (mnC P i = mnC P j ∧ ¬ (pL P (lfP P i) < pL P (lfP P j) ↔ pL P (rtP P i) < pL P (rtP P j))) := by
  unfold B2 mFt mSt
  constructor
  · intro h
    have h3 := h.2.2
    rw [not_or, Classical.not_not] at h3
    exact h3
  · intro h; exact ⟨⟨hi, ci⟩, ⟨hj, cj⟩, by rw [not_or, Classical.not_not]; exact h⟩
theorem ncomm {p q : Prop} : ¬ (p ↔ q) ↔ ¬ (q ↔ p) := ⟨fun h z => h z.symm, fun h z => h z.symm⟩
theorem geo2 (hA : PkA P) {i j : Nat} (hi : i + 1 < pN P) (hj : j + 1 < pN P) (ci : ¬ pC P i = pC P (i + 1)) (cj : ¬ pC P j = pC P (j + 1)) : (lin P i = lin P j ∧ Clash P i j) ↔ B2 P i j := by
  have cl : Clash P i j ↔ ¬ (pL P i < pL P (nearP P i j) ↔ pL P (i + 1) < pL P (farP P i j)) := by unfold Clash; rw [crs_f ci, crs_f cj]; exact Iff.rfl
  rw [cl, b2_iff hi hj ci cj]
  have nf1 : pC P i = pC P j → nearP P i j = j ∧ farP P i j = j + 1 := fun h => ⟨if_pos h, if_pos h⟩
  have nf2 : ¬ pC P i = pC P j → nearP P i j = j + 1 ∧ farP P i j = j := fun h => ⟨if_neg h, if_neg h⟩
  rcases lin_f hA hi ci with ⟨_, _, e1, l1⟩ | ⟨_, _, e1, l1⟩ <;> rcases lin_f hA hj cj with ⟨_, _, e2, l2⟩ | ⟨_, _, e2, l2⟩
  · obtain ⟨m1, f1, g1⟩ := mn_u e1
    obtain ⟨m2, f2, g2⟩ := mn_u e2
    rw [m1, m2, f1, f2, g1, g2, l1, l2]
    by_cases hn : pC P i = pC P j
    · rw [(nf1 hn).1, (nf1 hn).2]
      exact ⟨fun h => ⟨hn, h.2⟩, fun h => ⟨by omega, h.2⟩⟩
    · exact ⟨fun h => by omega, fun h => absurd h.1 hn⟩
  · obtain ⟨m1, f1, g1⟩ := mn_u e1
    obtain ⟨m2, f2, g2⟩ := mn_d e2
    rw [m1, m2, f1, f2, g1, g2, l1, l2]
    by_cases hn : pC P i = pC P j
    · exact ⟨fun h => by omega, fun h => by omega⟩
    · rw [(nf2 hn).1, (nf2 hn).2]
      exact ⟨fun h => ⟨by omega, h.2⟩, fun h => ⟨by omega, h.2⟩⟩
  · obtain ⟨m1, f1, g1⟩ := mn_d e1
    obtain ⟨m2, f2, g2⟩ := mn_u e2
    rw [m1, m2, f1, f2, g1, g2, l1, l2]
    by_cases hn : pC P i = pC P j
    · exact ⟨fun h => by omega, fun h => by omega⟩
    · rw [(nf2 hn).1, (nf2 hn).2]
      exact ⟨fun h => ⟨by omega, ncomm.mp h.2⟩, fun h => ⟨by omega, ncomm.mp h.2⟩⟩
  · obtain ⟨m1, f1, g1⟩ := mn_d e1
    obtain ⟨m2, f2, g2⟩ := mn_d e2
    rw [m1, m2, f1, f2, g1, g2, l1, l2]
    by_cases hn : pC P i = pC P j
    · rw [(nf1 hn).1, (nf1 hn).2]
      exact ⟨fun h => ⟨by omega, ncomm.mp h.2⟩, fun h => ⟨by omega, ncomm.mp h.2⟩⟩
    · exact ⟨fun h => by omega, fun h => by omega⟩
/-- a crease and two that go on flat over its side -/
theorem geo3 (hP : PkV P) (hA : PkA P) {i j : Nat} (hi : i + 1 < pN P) (hj : j + 1 < pN P) (ci : pC P i = pC P (i + 1)) (cj : ¬ pC P j = pC P (j + 1)) (hl : lin P i = lin P j) (hb : Bt P i (nearP P i j)) : B3 P i (nearP P i j) := by
  have dd : ∀ p q, p < pN P → q < pN P → pC P p = pC P q → pL P p = pL P q → p = q := hP.2.2.2.2.2.1
  have near : (pC P i = pC P j ∧ nearP P i j = j) ∨ (¬ pC P i = pC P j ∧ nearP P i j = j + 1) := by
    unfold nearP
    by_cases q : pC P i = pC P j
    · exact Or.inl ⟨q, if_pos q⟩
    · exact Or.inr ⟨q, if_neg q⟩
  have lh : (pL P i < pL P (i + 1) ∧ lwL P i = pL P i ∧ hgL P i = pL P (i + 1)) ∨ (¬ pL P i < pL P (i + 1) ∧ lwL P i = pL P (i + 1) ∧ hgL P i = pL P i) := by
    unfold lwL hgL
    by_cases q : pL P i < pL P (i + 1)
    · exact Or.inl ⟨q, if_pos q, if_pos q⟩
    · exact Or.inr ⟨q, if_neg q, if_neg q⟩
  have hij : i ≠ j := fun z => cj (by rw [← z]; exact ci)
  have hi2 := lin_c hA hi ci
  have hj2 := lin_f hA hj cj
  unfold B3
  rcases near with ⟨q, e⟩ | ⟨q, e⟩
  · rw [e] at hb ⊢
    have n1 := dd i j (by omega) (by omega) q
    have n2 := dd (i + 1) j (by omega) (by omega) (by omega)
    unfold Bt at hb
    have hne : i + 1 ≠ j := by
      intro z
      rw [← z] at hj2 hl
      rcases hi2 with ⟨w1, w2, e5⟩ | ⟨w1, w2, e5⟩ <;> rcases hj2 with ⟨v1, v2, e6, e7⟩ | ⟨v1, v2, e6, e7⟩
      · exact bno v1 w2
      · omega
      · omega
      · exact bno w2 v1
    refine ⟨q.symm, by omega, by omega, Or.inr ⟨hj, ?_⟩⟩
    rcases hi2 with ⟨w1, w2, e5⟩ | ⟨w1, w2, e5⟩ <;> rw [w1] <;> simp only [if_true, if_false, Bool.false_eq_true] <;> omega
  · rw [e] at hb ⊢
    have hcj : pC P (j + 1) = pC P i := by omega
    have n1 := dd i (j + 1) (by omega) (by omega) hcj.symm
    have n2 := dd (i + 1) (j + 1) (by omega) (by omega) (by omega)
    unfold Bt at hb
    have hne : i ≠ j + 1 := by
      intro z
      rw [z] at hi2 hl
      rcases hi2 with ⟨w1, w2, e5⟩ | ⟨w1, w2, e5⟩ <;> rcases hj2 with ⟨v1, v2, e6, e7⟩ | ⟨v1, v2, e6, e7⟩
      · omega
      · exact bno w1 v2
      · exact bno v2 w1
      · omega
    refine ⟨hcj, by omega, by omega, Or.inl ⟨by omega, ?_⟩⟩
    rw [show j + 1 - 1 = j by omega]
    rcases hi2 with ⟨w1, w2, e5⟩ | ⟨w1, w2, e5⟩ <;> rw [w1] <;> simp only [if_true, if_false, Bool.false_eq_true] <;> omega
theorem geo3' (hP : PkV P) (hA : PkA P) {i p : Nat} (hi : i + 1 < pN P) (hp : p < pN P) (ci : pC P i = pC P (i + 1)) (hb : B3 P i p) : ∃ j, j + 1 < pN P ∧ (¬ pC P j = pC P (j + 1)) ∧ lin P i = lin P j ∧ Bt P i (nearP P i j) := by
  obtain ⟨h1, h2, h3, h4⟩ := hb
  have l1 : lin P i = if pU P i then pC P i + 1 else pC P i := by unfold lin; rw [crs_t ci]; rfl
  have lh : (pL P i < pL P (i + 1) ∧ lwL P i = pL P i ∧ hgL P i = pL P (i + 1)) ∨ (¬ pL P i < pL P (i + 1) ∧ lwL P i = pL P (i + 1) ∧ hgL P i = pL P i) := by
    unfold lwL hgL
    by_cases q : pL P i < pL P (i + 1)
    · exact Or.inl ⟨q, if_pos q, if_pos q⟩
    · exact Or.inr ⟨q, if_neg q, if_neg q⟩
  have hB : Bt P i p := by unfold Bt; omega
  rcases h4 with ⟨g1, g2⟩ | ⟨g1, g2⟩
  · have e : p - 1 + 1 = p := by omega
    have hc : ¬ pC P (p - 1) = pC P (p - 1 + 1) := by rw [e]; intro z; rw [z] at g2; split at g2 <;> omega
    refine ⟨p - 1, by omega, hc, ?_, ?_⟩
    · rw [l1, lin_flat hc, e]
      cases hu : pU P i <;> rw [hu] at g2 <;> simp at g2 ⊢
      · rw [if_pos (by omega)]; omega
      · rw [if_neg (by omega)]; omega
    · have : nearP P i (p - 1) = p := by
        unfold nearP
        rw [if_neg (fun z => hc (by rw [e, h1]; exact z.symm)), e]
      rw [this]; exact hB
  · have hc : ¬ pC P p = pC P (p + 1) := by intro z; rw [← z] at g2; split at g2 <;> omega
    refine ⟨p, g1, hc, ?_, ?_⟩
    · rw [l1, lin_flat hc]
      cases hu : pU P i <;> rw [hu] at g2 <;> simp at g2 ⊢
      · rw [if_neg (by omega)]; omega
      · rw [if_pos (by omega)]; omega
    · have : nearP P i p = p := by unfold nearP; rw [if_pos h1.symm]
      rw [this]; exact hB
theorem B1_sym {i j : Nat} (hP : PkV P) (hA : PkA P) (hij : i ≠ j) (h : B1 P i j) : B1 P j i := by
  obtain ⟨⟨hi, ci⟩, ⟨hj, cj⟩, hc, hu, hx⟩ := h
  have ai := hA i hi
  have aj := hA j hj
  have n1 : i ≠ j + 1 := by
    intro z
    rw [z] at hu
    rcases aj with ⟨_, u1, u2⟩ | ⟨_, u1, u2⟩ | ⟨_, _, e⟩ | ⟨_, _, e⟩
    · rw [u1, u2] at hu; exact absurd hu (by decide)
    · rw [u1, u2] at hu; exact absurd hu (by decide)
    · omega
    · omega
  have n2 : i + 1 ≠ j := by
    intro z
    rw [← z] at hu
    rcases ai with ⟨_, u1, u2⟩ | ⟨_, u1, u2⟩ | ⟨_, _, e⟩ | ⟨_, _, e⟩
    · rw [u1, u2] at hu; exact absurd hu (by decide)
    · rw [u1, u2] at hu; exact absurd hu (by decide)
    · omega
    · omega
  have d1 := lay_ne hP (show i < pN P by omega) (show j < pN P by omega) hij hc
  have d2 := lay_ne hP (show i < pN P by omega) (show j + 1 < pN P by omega) n1 (hc.trans cj)
  have d3 := lay_ne hP (show i + 1 < pN P by omega) (show j < pN P by omega) n2 (ci.symm.trans hc)
  have d4 := lay_ne hP (show i + 1 < pN P by omega) (show j + 1 < pN P by omega) (by omega) (ci.symm.trans (hc.trans cj))
  have d5 := lay_ne hP (show i < pN P by omega) (show i + 1 < pN P by omega) (by omega) ci
  have d6 := lay_ne hP (show j < pN P by omega) (show j + 1 < pN P by omega) (by omega) cj
  refine ⟨⟨hj, cj⟩, ⟨hi, ci⟩, hc.symm, hu.symm, ?_⟩
  unfold lwL hgL at hx ⊢
  by_cases q1 : pL P i < pL P (i + 1) <;> by_cases q2 : pL P j < pL P (j + 1)
  · simp only [if_pos q1, if_pos q2] at hx ⊢; omega
  · simp only [if_pos q1, if_neg q2] at hx ⊢; omega
  · simp only [if_neg q1, if_pos q2] at hx ⊢; omega
  · simp only [if_neg q1, if_neg q2] at hx ⊢; omega
theorem B2_sym {i j : Nat} (hP : PkV P) (hA : PkA P) (hij : i ≠ j) (h : B2 P i j) : B2 P j i := by
  obtain ⟨⟨hi, ci⟩, ⟨hj, cj⟩, _⟩ := id h
  have dd : ∀ p q, p < pN P → q < pN P → pC P p = pC P q → pL P p = pL P q → p = q := hP.2.2.2.2.2.1
  rw [b2_iff hi hj ci cj] at h
  rw [b2_iff hj hi cj ci]
  rcases lin_f hA hi ci with ⟨u1, u2, e1, l1⟩ | ⟨u1, u2, e1, l1⟩ <;> rcases lin_f hA hj cj with ⟨v1, v2, e2, l2⟩ | ⟨v1, v2, e2, l2⟩
  · obtain ⟨m1, f1, g1⟩ := mn_u e1
    obtain ⟨m2, f2, g2⟩ := mn_u e2
    rw [m1, m2, f1, f2, g1, g2] at h
    rw [m1, m2, f1, f2, g1, g2]
    have d1 := dd i j (by omega) (by omega) (by omega)
    have d2 := dd (i + 1) (j + 1) (by omega) (by omega) (by omega)
    omega
  · obtain ⟨m1, f1, g1⟩ := mn_u e1
    obtain ⟨m2, f2, g2⟩ := mn_d e2
    rw [m1, m2, f1, f2, g1, g2] at h
    rw [m1, m2, f1, f2, g1, g2]
    have n1 : i ≠ j + 1 := fun z => by rw [z] at u1; exact bno u1 v2
    have n2 : i + 1 ≠ j := fun z => by rw [z] at u2; exact bno u2 v1
    have d1 := dd i (j + 1) (by omega) (by omega) (by omega)
    have d2 := dd (i + 1) j (by omega) (by omega) (by omega)
    omega
  · obtain ⟨m1, f1, g1⟩ := mn_d e1
    obtain ⟨m2, f2, g2⟩ := mn_u e2
    rw [m1, m2, f1, f2, g1, g2] at h
    rw [m1, m2, f1, f2, g1, g2]
    have n1 : i ≠ j + 1 := fun z => by rw [z] at u1; exact bno v2 u1
    have n2 : i + 1 ≠ j := fun z => by rw [z] at u2; exact bno v1 u2
    have d1 := dd i (j + 1) (by omega) (by omega) (by omega)
    have d2 := dd (i + 1) j (by omega) (by omega) (by omega)
    omega
  · obtain ⟨m1, f1, g1⟩ := mn_d e1
    obtain ⟨m2, f2, g2⟩ := mn_d e2
    rw [m1, m2, f1, f2, g1, g2] at h
    rw [m1, m2, f1, f2, g1, g2]
    have d1 := dd i j (by omega) (by omega) (by omega)
    have d2 := dd (i + 1) (j + 1) (by omega) (by omega) (by omega)
    omega
theorem pass_bad (hP : PkV P) : Pass P ↔ BadM P := by
  have hA := hP.A
  constructor
  · rintro ⟨i, j, h1, h2, h3, h4⟩
    have hj : j + 1 < pN P := by omega
    by_cases ci : pC P i = pC P (i + 1) <;> by_cases cj : pC P j = pC P (j + 1)
    · exact ⟨i, by omega, Or.inl ⟨j, by omega, by omega, Or.inl ((geo1 hP hA (by omega) h2 hj ci cj).mp ⟨h3, h4⟩)⟩⟩
    · have cl : Clash P i j ↔ Bt P i (nearP P i j) := by unfold Clash; rw [crs_t ci, crs_f cj]; exact Iff.rfl
      exact ⟨i, by omega, Or.inr ⟨⟨h2, ci⟩, nearP P i j, by unfold nearP; split <;> omega, geo3 hP hA h2 hj ci cj h3 (cl.mp h4)⟩⟩
    · have cl : Clash P i j ↔ Bt P j (nearP P j i) := by unfold Clash; rw [crs_f ci, crs_t cj]; exact Iff.rfl
      exact ⟨j, by omega, Or.inr ⟨⟨hj, cj⟩, nearP P j i, by unfold nearP; split <;> omega, geo3 hP hA hj h2 cj ci h3.symm (cl.mp h4)⟩⟩
    · exact ⟨i, by omega, Or.inl ⟨j, by omega, by omega, Or.inr ((geo2 hA h2 hj ci cj).mp ⟨h3, h4⟩)⟩⟩
  · rintro ⟨i, hi, (⟨j, hj, hij, hb⟩ | ⟨hc, p, hp, hb⟩)⟩
    · rcases hb with hb | hb
      · by_cases q : j < i
        · have := (geo1 hP hA hij hb.1.1 hb.2.1.1 hb.1.2 hb.2.1.2).mpr hb
          exact ⟨i, j, q, hb.1.1, this.1, this.2⟩
        · have hb := B1_sym hP hA hij hb
          have := (geo1 hP hA hij.symm hb.1.1 hb.2.1.1 hb.1.2 hb.2.1.2).mpr hb
          exact ⟨j, i, by omega, hb.1.1, this.1, this.2⟩
      · by_cases q : j < i
        · have := (geo2 hA hb.1.1 hb.2.1.1 hb.1.2 hb.2.1.2).mpr hb
          exact ⟨i, j, q, hb.1.1, this.1, this.2⟩
        · have hb := B2_sym hP hA hij hb
          have := (geo2 hA hb.1.1 hb.2.1.1 hb.1.2 hb.2.1.2).mpr hb
          exact ⟨j, i, by omega, hb.1.1, this.1, this.2⟩
    · obtain ⟨j, hj, cj, hl, hB⟩ := geo3' hP hA hc.1 hp hc.2 hb
      have hne : i ≠ j := fun z => cj (by rw [← z]; exact hc.2)
      by_cases q : j < i
      · have cl : Clash P i j ↔ Bt P i (nearP P i j) := by unfold Clash; rw [crs_t hc.2, crs_f cj]; exact Iff.rfl
        exact ⟨i, j, q, hc.1, hl, cl.mpr hB⟩
      · have cl : Clash P j i ↔ Bt P i (nearP P i j) := by unfold Clash; rw [crs_f cj, crs_t hc.2]; exact Iff.rfl
        exact ⟨j, i, by omega, hj, hl.symm, cl.mpr hB⟩
end GEO
