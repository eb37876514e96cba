section SM2
variable {γ : rG} {l : Launch} {sh : Nat × (Nat → Nat) × (Nat → Nat)} {I : Nat → Nat → Int32} {J : Nat → Nat → Int64} {R : Nat → Nat → Option Nat} {a q : Nat} {P : Pk}
/-! creases and lines of the class -/
def crs (P : Pk) (i : Nat) : Bool := pC P i == pC P (i + 1)
def lin (P : Pk) (i : Nat) : Nat := if crs P i then (if pU P i then pC P i + 1 else pC P i) else (if pC P i < pC P (i + 1) then pC P (i + 1) else pC P i)
theorem ct_isCrease {i : Nat} (hA : At2 sh R a) (hP : PkV P) (hC : PkC I a P) (hi : i + 1 < pN P) : rMet γ l m_X2_isCrease [.ref a, .int (nI i)] (sh, I, J, R) (sh, I, J, R) (some (.int (nz (crs P i)))) := by
  have h8 := hP.2.1
  have e1 : (nI i + 1).toNatClampNeg = i + 1 := by rw [nI_1]; exact nI_clamp (by omega)
  have q1 := (hC.2.2.1 i (by omega)).1
  have q2 := (hC.2.2.1 (i + 1) hi).1
  refine e_X2_isCrease (rW_pure (w_X2_isCrease_0 hA ⟨vp_in_nI (by omega) (by decide), by rw [nI_1]; exact vp_in_nI (by omega) (by decide), ?_⟩))
  rw [e1, nI_clamp (by omega), q1, q2, nI_eq (hP.b i (by omega)).1 (hP.b (i + 1) hi).1]
  refine ⟨fun z => ⟨rfl, ?_⟩, fun z => ⟨rfl, ?_⟩⟩
  · unfold crs; rw [beq_iff_eq.mpr z]; rfl
  · unfold crs; rw [beq_eq_false_iff_ne.mpr z]; rfl
theorem ct_lineOf {i : Nat} (hA : At2 sh R a) (hP : PkV P) (hC : PkC I a P) (hi : i + 1 < pN P) : rMet γ l m_X2_lineOf [.ref a, .int (nI i)] (sh, I, J, R) (sh, I, J, R) (some (.int (nI (lin P i)))) := by
  have h8 := hP.2.1
  have e0 : (nI i).toNatClampNeg = i := nI_clamp (by omega)
  have e1 : (nI i + 1).toNatClampNeg = i + 1 := by rw [nI_1]; exact nI_clamp (by omega)
  have v0 : vp_in (nI i) 8 := vp_in_nI (by omega) (by decide)
  have v1 : vp_in (nI i + 1) 8 := by rw [nI_1]; exact vp_in_nI (by omega) (by decide)
  have q1 := (hC.2.2.1 i (by omega)).1
  have q2 := (hC.2.2.1 (i + 1) hi).1
  have q3 := (hC.2.2.1 i (by omega)).2.2
  refine e_X2_lineOf (rW_pure (w_X2_lineOf_0 hA ⟨_, ct_isCrease hA hP hC hi, ?_⟩))
  rw [nz_0, e0, e1, q1, q2, q3]
  refine ⟨fun z => ⟨v0, v1, rfl, ?_⟩, fun z => ⟨v0, fun y => ⟨v0, rfl, ?_⟩, fun y => ⟨v0, rfl, ?_⟩⟩⟩
  · unfold lin
    rw [z]
    simp only [Bool.false_eq_true, if_false]
    by_cases h : pC P i < pC P (i + 1)
    · rw [if_pos h, if_pos ((nI_ltI (hP.b i (by omega)).1 (hP.b (i + 1) hi).1).mpr h)]
    · rw [if_neg h, if_neg (fun w => h ((nI_ltI (hP.b i (by omega)).1 (hP.b (i + 1) hi).1).mp w))]
  · have z' : crs P i = true := by simpa using z
    rw [nz_0] at y
    unfold lin
    simp [z', y]
  · have z' : crs P i = true := by simpa using z
    rw [nz_0] at y
    have y' : pU P i = true := by simpa using y
    unfold lin
    simp [z', y', nI_1]
/-- parts that hang together flat lie side by side: the line between is the one at which one turns and the other doesn't -/
theorem crs_line {i x : Nat} {left : Bool} (hP : PkV P) (hi : i + 1 < pN P) (hx1 : 1 ≤ x) : (pC P i = pC P (i + 1) ∨ tMv x left (pC P i) = tMv x left (pC P (i + 1))) ↔ ¬ (crs P i = false ∧ lin P i = x) := by
  have ha := hP.2.2.2.2.2.2.2 i hi
  unfold lin crs tMv
  by_cases hc : pC P i = pC P (i + 1)
  · simp [hc]
  · have hb : (pC P i == pC P (i + 1)) = false := beq_eq_false_iff_ne.mpr hc
    rw [hb]
    simp only [hc, false_or, Bool.false_eq_true, if_false, true_and]
    have hadj : pC P (i + 1) = pC P i + 1 ∨ pC P i = pC P (i + 1) + 1 := by
      rcases ha with ⟨_, ha⟩ | ⟨_, ha⟩
      · split at ha
        · exact Or.inl ha
        · exact Or.inr ha
      · exact absurd ha hc
    generalize pC P i = c at *
    generalize pC P (i + 1) = d at *
    by_cases h1 : c < x <;> by_cases h2 : d < x <;> cases left <;> simp [h1, h2] <;> (repeat' split) <;> omega
theorem creasesAt_loop {x : Nat} {left over : Bool} (hA : At2 sh R a) (hP : PkV P) (hC : PkC I a P) (hx1 : 1 ≤ x) (hx : x < 2 ^ 31) : ∀ j k, k + 1 + j = pN P → s_X2_creasesAt_5 γ l a (nI x) (nz over) (crM P x left over k) (nI k) (sh, I, J, R) (fun hf r => hf = (sh, I, J, R) ∧ r = some (.int (crM P x left over (pN P - 1)))) := by
  have h8 := hP.2.1
  intro j
  induction j with
  | zero =>
    intro k hk
    have hg : I a 0 - 1 ≤ nI k := by rw [hC.1, show (1 : Int32) = nI 1 by decide, pk_sub (by omega)]; exact nI_le (by omega) (by omega)
    refine w_X2_creasesAt_5 hA ⟨fun _ => ⟨rfl, ?_⟩, fun z => absurd hg z⟩
    rw [show k = pN P - 1 by omega]
  | succ j ih =>
    intro k hk
    have nx := ih (k + 1) (by omega)
    have hg : ¬ I a 0 - 1 ≤ nI k := by rw [hC.1, show (1 : Int32) = nI 1 by decide, pk_sub (by omega)]; exact nI_ge (by omega) (by omega)
    have q3 := (hC.2.2.1 k (by omega)).2.2
    have key := crs_line (left := left) (x := x) hP (show k + 1 < pN P by omega) hx1
    have hl : lin P k < 2 ^ 31 := by
      have := (hP.2.2.2.2.1 k (by omega)).1
      have := (hP.2.2.2.2.1 (k + 1) (by omega)).1
      have := hP.2.2.2.1
      unfold lin; (repeat' split) <;> omega
    simp only [crM] at nx
    refine w_X2_creasesAt_5 hA ⟨fun z => absurd z hg, fun _ => ⟨_, ct_isCrease hA hP hC (by omega), ?_⟩⟩
    rw [nz_0, nI_1, nI_clamp (by omega), q3, nz_eq]
    refine ⟨fun z => ⟨_, ct_lineOf hA hP hC (by omega), ?_⟩, fun z => ?_⟩
    · rw [nI_eq hl hx]
      refine ⟨fun y => ⟨vp_in_nI (by omega) (by decide), ?_⟩, fun y => ?_⟩
      · rw [if_neg (fun w => key.mp w ⟨z, y⟩)] at nx
        refine ⟨fun w => ?_, fun w => ?_⟩
        · rw [if_pos w] at nx; exact nx
        · rw [if_neg w] at nx; exact nx
      · rw [if_pos (key.mpr (fun w => y w.2))] at nx; exact nx
    · rw [if_pos (key.mpr (fun w => z w.1))] at nx; exact nx
theorem ct_creasesAt {x : Nat} {left over : Bool} (hA : At2 sh R a) (hP : PkV P) (hC : PkC I a P) (hx1 : 1 ≤ x) (hx : x < 2 ^ 31) : rMet γ l m_X2_creasesAt [.ref a, .int (nI x), .int (nz over)] (sh, I, J, R) (sh, I, J, R) (some (.int (crM P x left over (pN P - 1)))) := by
  have := hP.1
  exact e_X2_creasesAt (rW_pure (w_X2_creasesAt_0 hA (creasesAt_loop hA hP hC hx1 hx (pN P - 1) 0 (by omega))))
/-- marks as a number -/
def crN (P : Pk) (x : Nat) (left over : Bool) : Nat → Nat
  | 0 => 0
  | k + 1 => if pC P k = pC P (k + 1) ∨ tMv x left (pC P k) = tMv x left (pC P (k + 1)) then crN P x left over k else crN P x left over k ||| ((if pU P k = over then 1 else 2) * 2 ^ (2 * k))
theorem crN_lt {x : Nat} {left over : Bool} : ∀ k, crN P x left over k < 2 ^ (2 * k) := by
  intro k
  induction k with
  | zero => simp [crN]
  | succ k ih =>
    simp only [crN]
    have e : (2 : Nat) ^ (2 * (k + 1)) = 4 * 2 ^ (2 * k) := by rw [show 2 * (k + 1) = 2 + 2 * k by omega, Nat.pow_add]
    split
    · omega
    · refine Nat.or_lt_two_pow (by omega) ?_
      split <;> omega
theorem crM_N {x : Nat} {left over : Bool} : ∀ k, k ≤ 7 → crM P x left over k = nI (crN P x left over k) := by
  intro k
  induction k with
  | zero => intro _; rfl
  | succ k ih =>
    intro hk
    simp only [crM, crN]
    rw [ih (by omega)]
    split
    · rfl
    · have h0 := crN_lt (P := P) (x := x) (left := left) (over := over) k
      have h1 : (2 : Nat) ^ (2 * k) ≤ 2 ^ 12 := Nat.pow_le_pow_right (by omega) (by omega)
      have e : ((2 : Int32) * nI k) &&& 31 = nI (2 * k) &&& 31 := by rw [show (2 : Int32) = nI 2 by decide, pk_mul]
      rw [e]
      split
      · rw [show (1 : Int32) = nI 1 by decide, bt_shl (by omega) (by omega), bt_or (by omega) (by omega)]
      · rw [show (2 : Int32) = nI 2 by decide, bt_shl (by omega) (by omega), bt_or (by omega) (by omega)]
/-! how many lie highest -/
def mosN (P : Pk) : Nat → Nat
  | 0 => 0
  | c + 1 => if mosN P c < cnt (pC P) c (pN P) then cnt (pC P) c (pN P) else mosN P c
theorem mosN_le : ∀ c, mosN P c ≤ pN P := by
  intro c
  induction c with
  | zero => exact Nat.zero_le _
  | succ c ih => simp only [mosN]; have := cnt_le (pC P) c (pN P); split <;> omega
theorem mostLayers_loop (hA : At2 sh R a) (hP : PkV P) (hC : PkC I a P) : ∀ j c, c + j = pW P → s_X2_mostLayers_4 γ l a (nI (mosN P c)) (nI c) (sh, I, J, R) (fun hf r => hf = (sh, I, J, R) ∧ r = some (.int (nI (mosN P (pW P))))) := by
  have h8 := hP.2.1
  have h4 := hP.2.2.2.1
  intro j
  induction j with
  | zero =>
    intro c hc
    have e : c = pW P := by omega
    subst e
    exact w_X2_mostLayers_4 hA ⟨fun _ => ⟨rfl, rfl⟩, fun z => absurd (by rw [hC.2.1]; exact nI_le (Nat.le_refl _) (by omega)) z⟩
  | succ j ih =>
    intro c hc
    have nx := ih (c + 1) (by omega)
    have := mosN_le (P := P) c
    have := cnt_le (pC P) c (pN P)
    refine w_X2_mostLayers_4 hA ⟨fun z => absurd z (by rw [hC.2.1]; exact nI_ge (by omega) (by omega)), fun _ => ⟨vp_in_nI (by omega) (by decide), ?_⟩⟩
    rw [nI_clamp (by omega), hC.2.2.2.1 c (by omega), nI_1]
    simp only [mosN] at nx
    split at nx
    · rename_i h; rw [if_pos (nI_lt h (by omega))]; exact nx
    · rename_i h; rw [if_neg (nI_nlt (by omega) (by omega))]; exact nx
theorem ct_mostLayers (hA : At2 sh R a) (hP : PkV P) (hC : PkC I a P) : rMet γ l m_X2_mostLayers [.ref a] (sh, I, J, R) (sh, I, J, R) (some (.int (nI (mosN P (pW P))))) :=
  e_X2_mostLayers (rW_pure (w_X2_mostLayers_0 hA (mostLayers_loop hA hP hC (pW P) 0 (by omega))))
theorem mmostLayers_loop (hA : At9 sh R a) (hq : q < 22) (hP : PkV P) (hM : PkM I a q P) : ∀ j c, c + j = pW P → s_X9_mostLayers_4 γ l a (nI q) (nI (mosN P c)) (nI c) (sh, I, J, R) (fun hf r => hf = (sh, I, J, R) ∧ r = some (.int (nI (mosN P (pW P))))) := by
  have h8 := hP.2.1
  have h4 := hP.2.2.2.1
  intro j
  induction j with
  | zero =>
    intro c hc
    have e : c = pW P := by omega
    subst e
    refine w_X9_mostLayers_4 hA ⟨vp_in_nI hq (by decide), fun _ => ⟨rfl, rfl⟩, fun z => absurd ?_ z⟩
    rw [nI_clamp (by omega), hM.2.1]; exact nI_le (Nat.le_refl _) (by omega)
  | succ j ih =>
    intro c hc
    have nx := ih (c + 1) (by omega)
    have := mosN_le (P := P) c
    have := cnt_le (pC P) c (pN P)
    refine w_X9_mostLayers_4 hA ⟨vp_in_nI hq (by decide), fun z => absurd z (by rw [nI_clamp (by omega), hM.2.1]; exact nI_ge (by omega) (by omega)), fun _ => ⟨_, ct_layersOf hA hq h8 hM, ?_⟩⟩
    rw [own_eq hP (by omega), nI_leI (by omega) (by omega), nI_1]
    simp only [mosN] at nx
    refine ⟨fun z => ?_, fun z => ⟨_, ct_layersOf hA hq h8 hM, ?_⟩⟩
    · rw [if_neg (by omega)] at nx; exact nx
    · rw [if_pos (by omega)] at nx; rw [own_eq hP (by omega)]; exact nx
theorem ct_mmostLayers (hA : At9 sh R a) (hq : q < 22) (hP : PkV P) (hM : PkM I a q P) : rMet γ l m_X9_mostLayers [.ref a, .int (nI q)] (sh, I, J, R) (sh, I, J, R) (some (.int (nI (mosN P (pW P))))) :=
  e_X9_mostLayers (rW_pure (w_X9_mostLayers_0 hA (mmostLayers_loop hA hq hP hM (pW P) 0 (by omega))))
end SM2
