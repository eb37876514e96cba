/-! ===== endings; the class's search ===== -/
def fitS (N : Nat) (F : Fnd) (t : Nat) : Bool := (t &&& skN N F) == slN N F
def fitD (N : Nat) (F : Fnd) (t : Nat) : Bool := (t &&& dkN N F) == diN N F
/-- slits in one column; in the first columns; all, and none -/
def slK (P : Pk) (c : Nat) : Nat → List (Nat × Nat)
  | 0 => []
  | k + 1 => slK P c k ++ [(1000 + 10 * c + (k + 1), hiM P c (k + 1))]
def slC (P : Pk) : Nat → List (Nat × Nat)
  | 0 => []
  | c + 1 => slC P c ++ slK P c (cnt (pC P) c (pN P))
def slO (P : Pk) : List (Nat × Nat) := (0, 0) :: slC P (pW P)
def fltS (N : Nat) (F : Fnd) (X : List (Nat × Nat)) : List (Nat × Nat) := X.filter (fun s => fitS N F s.2)
def slF (N : Nat) (F : Fnd) (P : Pk) : List (Nat × Nat) := fltS N F (slO P)
def soF (N : Nat) (F : Fnd) (P : Pk) : List (Nat × Nat) := [(0, 0), (2000, ouM P)].filter (fun s => fitD N F s.2)
def lsl (X : List (Nat × Nat)) : Nat := match X with
  | [] => 0
  | s :: _ => s.1
def EkK (N : Nat) (F : Fnd) (k : Nat × Nat) : Nat := if k.1 &&& ckN N F = crF N F then (slF N F (unP N k.2)).length * (soF N F (unP N k.2)).length else 0
def pE (N : Nat) (F : Fnd) (k : Nat × Nat) : Bool := decide (0 < EkK N F k)
theorem slK_len (P : Pk) (c : Nat) : ∀ k, (slK P c k).length = k := by
  intro k
  induction k with
  | zero => rfl
  | succ k ih => simp only [slK, List.length_append, ih, List.length_singleton]
theorem slC_len {P : Pk} (h : pN P ≤ 8) : ∀ w, (slC P w).length ≤ 8 * w := by
  intro w
  induction w with
  | zero => simp [slC]
  | succ w ih =>
    have := cnt_le (pC P) w (pN P)
    simp only [slC, List.length_append, slK_len]
    omega
theorem slF_len {N : Nat} {F : Fnd} {P : Pk} (hP : PkV P) : (slF N F P).length ≤ 100 := by
  have h1 : (slF N F P).length ≤ (slO P).length := List.length_filter_le _ _
  have h2 := slC_len hP.2.1 (pW P)
  have h3 := hP.2.2.2.1
  have h4 : (slO P).length = (slC P (pW P)).length + 1 := rfl
  omega
theorem soF_len {N : Nat} {F : Fnd} {P : Pk} : (soF N F P).length ≤ 2 := List.length_filter_le _ _
theorem fltS_snoc {N : Nat} {F : Fnd} {X : List (Nat × Nat)} {s : Nat × Nat} : fltS N F (X ++ [s]) = if fitS N F s.2 then fltS N F X ++ [s] else fltS N F X := by
  unfold fltS
  rw [List.filter_append]
  by_cases h : fitS N F s.2 = true
  · simp [h]
  · simp [h]
theorem sk_31 (N : Nat) (F : Fnd) (h : N ≤ 8) : skN N F < 2 ^ 31 ∧ slN N F < 2 ^ 31 ∧ dkN N F < 2 ^ 31 ∧ diN N F < 2 ^ 31 ∧ ckN N F < 2 ^ 14 ∧ crF N F < 2 ^ 14 := by
  have h1 : (2 : Nat) ^ (2 * (N - 1)) ≤ 2 ^ 14 := Nat.pow_le_pow_right (by omega) (by omega)
  exact ⟨mkN_31 _ (by omega), mkN_31 _ (by omega), mkN_31 _ (by omega), mkN_31 _ (by omega), Nat.lt_of_lt_of_le (mkN_lt _ _) h1, Nat.lt_of_lt_of_le (mkN_lt _ _) h1⟩
theorem and_31 {x y : Nat} (h : x < 2 ^ 31) : x &&& y < 2 ^ 31 := Nat.lt_of_le_of_lt Nat.and_le_left h
section SRC
variable {γ : rG} {l : Launch} {sh : Nat × (Nat → Nat) × (Nat → Nat)} {I : Nat → Nat → Int32} {J : Nat → Nat → Int64} {R : Nat → Nat → Option Nat} {a N : Nat} {F : Fnd} {P : Pk}
theorem and_eq {x y z : Nat} (hx : x < 2 ^ 31) (hy : y < 2 ^ 31) (hz : z < 2 ^ 31) : (nI x &&& nI y = nI z) ↔ (x &&& y == z) = true := by
  rw [bt_and hx hy, nI_eq (and_31 hx) hz, beq_iff_eq]
theorem ct_fitsSlit {c k : Nat} (hA : At0 sh R a) (hN : N ≤ 8) (hF : FdC I a N F) (hP : PkV P) (hC : PkC I (a + 19) P) (hc : c < pW P) (hk : k ≤ cnt (pC P) c (pN P)) : rMet γ l m_X0_fitsSlit [.ref a, .int (nI c), .int (nI k)] (sh, I, J, R) (sh, I, J, R) (some (.int (nz (fitS N F (hiM P c k))))) := by
  obtain ⟨b1, b2, _⟩ := sk_31 N F hN
  have m := ct_highest (γ := γ) (l := l) (J := J) (At0_14 hA).2 hP hC hc hk
  refine e_X0_fitsSlit (rW_pure (w_X0_fitsSlit_0 hA ⟨_, m, ?_⟩))
  rw [hF.2.2.2.1, hF.2.2.2.2.1, and_eq (hiM_31 hP) b1 b2]
  refine ⟨fun z => ⟨rfl, ?_⟩, fun z => ⟨rfl, ?_⟩⟩
  · unfold fitS; rw [z]; rfl
  · have : fitS N F (hiM P c k) = false := by revert z; unfold fitS; cases (hiM P c k &&& skN N F == slN N F) <;> simp
    rw [this]; rfl
theorem ct_soilEndings (hA : At0 sh R a) (hN : N ≤ 8) (hF : FdC I a N F) (hP : PkV P) (hC : PkC I (a + 19) P) : rMet γ l m_X0_soilEndings [.ref a] (sh, I, J, R) (sh, I, J, R) (some (.int (nI (soF N F P).length))) := by
  obtain ⟨_, _, b3, b4, _⟩ := sk_31 N F hN
  have m := ct_outerFaces (γ := γ) (l := l) (J := J) (At0_14 hA).2 hP hC
  have fin : ∀ w : Bool, fitD N F 0 = w → s_X0_soilEndings_12 γ l a (nz w) (sh, I, J, R) (fun hf r => hf = (sh, I, J, R) ∧ r = some (.int (nI (soF N F P).length))) := by
    intro w hw
    refine w_X0_soilEndings_12 hA ⟨_, m, ?_⟩
    rw [hF.2.2.2.2.2.1, hF.2.2.2.2.2.2, and_eq (ouM_31 hP) b3 b4]
    have hl : (soF N F P).length = (if fitD N F 0 then 1 else 0) + (if fitD N F (ouM P) then 1 else 0) := by
      unfold soF
      cases h1 : fitD N F 0 <;> cases h2 : fitD N F (ouM P) <;> simp [h1, h2]
    rw [hl, hw]
    refine ⟨fun z => ⟨rfl, ?_⟩, fun z => ⟨rfl, ?_⟩⟩
    · rw [show fitD N F (ouM P) = true from z]
      cases w <;> rfl
    · have : fitD N F (ouM P) = false := by revert z; unfold fitD; cases (ouM P &&& dkN N F == diN N F) <;> simp
      rw [this]
      cases w <;> rfl
  have h0 : fitD N F 0 = decide (diN N F = 0) := by
    unfold fitD
    rw [Nat.zero_and]
    by_cases z : diN N F = 0
    · rw [z]; rfl
    · rw [decide_eq_false z]
      exact beq_eq_false_iff_ne.mpr (fun y => z y.symm)
  refine e_X0_soilEndings (rW_pure (w_X0_soilEndings_0 hA ?_))
  rw [hF.2.2.2.2.2.2, show (0 : Int32) = nI 0 from rfl, nI_eq b4 (by decide)]
  exact ⟨fun z => fin true (by rw [h0]; exact decide_eq_true z), fun z => fin false (by rw [h0]; exact decide_eq_false z)⟩
/-- count and least, as far as slits were tried -/
def SeI (I I1 : Nat → Nat → Int32) (a N : Nat) (F : Fnd) (X : List (Nat × Nat)) : Prop := I1 a 12 = nI (lsl (fltS N F X)) ∧ Sm (fun b j => b = a ∧ j = 12) I I1
theorem lsl_snoc (X : List (Nat × Nat)) (s : Nat × Nat) : lsl (X ++ [s]) = if X.length = 0 then s.1 else lsl X := by
  cases X with
  | nil => rfl
  | cons x t => rfl
theorem ct_slitEndings (hA : At0 sh R a) (hN : N ≤ 8) (hF : FdC I a N F) (hP : PkV P) (hC : PkC I (a + 19) P) : ∃ I', rMet γ l m_X0_slitEndings [.ref a] (sh, I, J, R) (sh, I', J, R) (some (.int (nI (slF N F P).length))) ∧ (I' a 12 = nI (lsl (slF N F P)) ∧ Sm (fun b j => b = a ∧ j = 12) I I') := by
  obtain ⟨b1, b2, _⟩ := sk_31 N F hN
  have hW8 := hP.2.2.2.1
  have hN8 := hP.2.1
  have fr : ∀ {I1 : Nat → Nat → Int32}, Sm (fun b j => b = a ∧ j = 12) I I1 → FdC I1 a N F ∧ PkC I1 (a + 19) P := fun h => ⟨hF.loc (fun j hj => h _ _ (by omega)), hC.loc (fun b z1 z2 => by funext j; exact h _ _ (by omega))⟩
  -- one column
  have col : ∀ c, c < pW P → (∀ I2, SeI I I2 a N F ((0, 0) :: slC P (c + 1)) → s_X0_slitEndings_20 γ l a (nI (fltS N F ((0, 0) :: slC P (c + 1))).length) (nI (c + 1)) (sh, I2, J, R) (fun hf r => ∃ I', hf = (sh, I', J, R) ∧ r = some (.int (nI (slF N F P).length)) ∧ (I' a 12 = nI (lsl (slF N F P)) ∧ Sm (fun b j => b = a ∧ j = 12) I I'))) → ∀ j k I1, k + j = cnt (pC P) c (pN P) → SeI I I1 a N F ((0, 0) :: slC P c ++ slK P c k) → s_X0_slitEndings_33 γ l a (nI (fltS N F ((0, 0) :: slC P c ++ slK P c k)).length) (nI c) (nI (k + 1)) (sh, I1, J, R) (fun hf r => ∃ I', hf = (sh, I', J, R) ∧ r = some (.int (nI (slF N F P).length)) ∧ (I' a 12 = nI (lsl (slF N F P)) ∧ Sm (fun b j => b = a ∧ j = 12) I I')) := by
    intro c hc K j
    have hh := cnt_le (pC P) c (pN P)
    induction j with
    | zero =>
      intro k I1 hk h
      have hC1 := (fr h.2).2
      refine w_X0_slitEndings_33 hA ⟨vp_in_nI (by omega) (by decide), ?_⟩
      rw [nI_clamp (by omega), hC1.2.2.2.1 c (by omega)]
      refine ⟨fun _ => ?_, fun z => absurd (nI_lt (by omega) (by omega)) z⟩
      rw [nI_1]
      have e : (0, 0) :: slC P c ++ slK P c k = (0, 0) :: slC P (c + 1) := by
        rw [show k = cnt (pC P) c (pN P) by omega]; rfl
      rw [e] at h ⊢
      exact K I1 h
    | succ j ih =>
      intro k I1 hk h
      obtain ⟨hF1, hC1⟩ := fr h.2
      have m := ct_fitsSlit (γ := γ) (l := l) (J := J) (k := k + 1) hA hN hF1 hP hC1 hc (by omega)
      refine w_X0_slitEndings_33 hA ⟨vp_in_nI (by omega) (by decide), ?_⟩
      rw [nI_clamp (by omega), hC1.2.2.2.1 c (by omega)]
      refine ⟨fun z => absurd z (nI_nlt (by omega) (by omega)), fun _ => ⟨_, m, fun z => ?_, fun z => ?_⟩⟩
      · rw [nz_0] at z
        have := ih (k + 1) I1 (by omega) (by
          simp only [slK]
          rw [← List.append_assoc]
          unfold SeI
          rw [fltS_snoc, z]
          exact h)
        simp only [slK] at this
        rw [← List.append_assoc, fltS_snoc, z] at this
        rw [nI_1]
        exact this
      · have z : fitS N F (hiM P c (k + 1)) = true := by revert z; rw [nz_0]; cases fitS N F (hiM P c (k + 1)) <;> simp
        have e1 : fltS N F ((0, 0) :: slC P c ++ slK P c (k + 1)) = fltS N F ((0, 0) :: slC P c ++ slK P c k) ++ [(1000 + 10 * c + (k + 1), hiM P c (k + 1))] := by
          simp only [slK]
          rw [← List.append_assoc, fltS_snoc, z]
          rfl
        have hl : (fltS N F ((0, 0) :: slC P c ++ slK P c k)).length < 2 ^ 31 := by
          have h1 : (fltS N F ((0, 0) :: slC P c ++ slK P c k)).length ≤ ((0, 0) :: slC P c ++ slK P c k).length := List.length_filter_le _ _
          have h2 := slC_len hP.2.1 c
          simp only [List.length_append, List.length_cons, slK_len] at h1
          omega
        have go : ∀ v : Int32, v = nI (lsl (fltS N F ((0, 0) :: slC P c ++ slK P c (k + 1)))) → s_X0_slitEndings_33 γ l a (nI (fltS N F ((0, 0) :: slC P c ++ slK P c k)).length + 1) (nI c) (nI (k + 1) + 1) (sh, up I1 a 12 v, J, R) (fun hf r => ∃ I', hf = (sh, I', J, R) ∧ r = some (.int (nI (slF N F P).length)) ∧ (I' a 12 = nI (lsl (slF N F P)) ∧ Sm (fun b j => b = a ∧ j = 12) I I')) := by
          intro v hv
          have := ih (k + 1) (up I1 a 12 v) (by omega) ⟨by rw [up_at, if_pos ⟨rfl, rfl⟩]; exact hv, h.2.up ⟨rfl, rfl⟩⟩
          have e2 : (fltS N F ((0, 0) :: slC P c ++ slK P c (k + 1))).length = (fltS N F ((0, 0) :: slC P c ++ slK P c k)).length + 1 := by rw [e1, List.length_append]; rfl
          rw [e2] at this
          rw [nI_1, nI_1]
          exact this
        refine ⟨fun y => go _ ?_, fun y => go _ ?_⟩
        · rw [e1, lsl_snoc, if_pos ((nI_eq hl (by decide)).mp y)]
          rw [show (1000 : Int32) = nI 1000 from rfl, show (10 : Int32) = nI 10 from rfl, pk_mul, nI_add, nI_add]
        · rw [e1, lsl_snoc, if_neg (fun w => y (by rw [w]; rfl))]
          exact h.1
  have cols : ∀ j c I1, c + j = pW P → SeI I I1 a N F ((0, 0) :: slC P c) → s_X0_slitEndings_20 γ l a (nI (fltS N F ((0, 0) :: slC P c)).length) (nI c) (sh, I1, J, R) (fun hf r => ∃ I', hf = (sh, I', J, R) ∧ r = some (.int (nI (slF N F P).length)) ∧ (I' a 12 = nI (lsl (slF N F P)) ∧ Sm (fun b j => b = a ∧ j = 12) I I')) := by
    intro j
    induction j with
    | zero =>
      intro c I1 hc h
      have ec : c = pW P := by omega
      subst ec
      refine w_X0_slitEndings_20 hA ⟨fun _ => ⟨I1, rfl, rfl, h.1, h.2⟩, fun z => absurd ?_ z⟩
      rw [(fr h.2).2.2.1]; exact nI_le (Nat.le_refl _) (by omega)
    | succ j ih =>
      intro c I1 hc h
      refine w_X0_slitEndings_20 hA ⟨fun z => absurd z (by rw [(fr h.2).2.2.1]; exact nI_ge (by omega) (by omega)), fun _ => ?_⟩
      have := col c (by omega) (fun I2 h2 => ih (c + 1) I2 (by omega) h2) (cnt (pC P) c (pN P)) 0 I1 (by omega) (by
        simp only [slK, List.append_nil]
        exact h)
      simp only [slK, List.append_nil] at this
      exact this
  have f0 : fltS N F [(0, 0)] = if slN N F = 0 then [(0, 0)] else [] := by
    unfold fltS fitS
    by_cases z : slN N F = 0
    · rw [if_pos z]; simp [z]
    · rw [if_neg z]
      have : (0 == slN N F) = false := beq_eq_false_iff_ne.mpr (fun y => z y.symm)
      simp [this]
  have e12 : SeI I (up I a 12 0) a N F ((0, 0) :: slC P 0) := by
    refine ⟨?_, Sm.rf.up ⟨rfl, rfl⟩⟩
    rw [up_at, if_pos ⟨rfl, rfl⟩]
    show (0 : Int32) = nI (lsl (fltS N F [(0, 0)]))
    rw [f0]
    split <;> rfl
  have t0 := cols (pW P) 0 (up I a 12 0) (by omega) e12
  have t0' : s_X0_slitEndings_20 γ l a (nI (fltS N F [(0, 0)]).length) 0 (sh, up I a 12 0, J, R) (fun hf r => ∃ I', hf = (sh, I', J, R) ∧ r = some (.int (nI (slF N F P).length)) ∧ (I' a 12 = nI (lsl (slF N F P)) ∧ Sm (fun b j => b = a ∧ j = 12) I I')) := t0
  rw [f0] at t0'
  suffices hh : s_X0_slitEndings_0 γ l a (sh, I, J, R) (fun hf r => ∃ I', hf = (sh, I', J, R) ∧ r = some (.int (nI (slF N F P).length)) ∧ (I' a 12 = nI (lsl (slF N F P)) ∧ Sm (fun b j => b = a ∧ j = 12) I I')) by
    obtain ⟨I', q1, q2⟩ := rW_ex hh
    exact ⟨I', e_X0_slitEndings q1, q2⟩
  refine w_X0_slitEndings_0 hA ?_
  rw [hF.2.2.2.2.1]
  refine ⟨fun z => ?_, fun z => ?_⟩
  · rw [if_pos ((nI_eq b2 (by decide)).mp z)] at t0'; exact t0'
  · rw [if_neg (fun y => z (by rw [y]; rfl))] at t0'; exact t0'
end SRC
