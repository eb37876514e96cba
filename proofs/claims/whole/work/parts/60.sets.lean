/-! ===== the highest of a column, the outer faces ===== -/
def hiS (P : Pk) (c k p : Nat) : Bool := pC P p == c && decide (cnt (pC P) c (pN P) ≤ pL P p + k)
def loS (P : Pk) (c u v p : Nat) : Bool := pC P p == c && (decide (u ≤ pL P p) && decide (pL P p < v))
def fcB (P : Pk) (f : Nat) : Bool := ((pU P (f / 2) == decide (f % 2 = 0)) && decide (pL P (f / 2) + 1 = cnt (pC P) (pC P (f / 2)) (pN P))) || ((pU P (f / 2) != decide (f % 2 = 0)) && decide (pL P (f / 2) = 0))
def fcS (P : Pk) (c f : Nat) : Bool := decide (pC P (f / 2) < c) && fcB P f
def hiM (P : Pk) (c k : Nat) : Nat := mkN (hiS P c k) (pN P)
def ouM (P : Pk) : Nat := mkN (fcS P (pW P)) (2 * pN P)
theorem mkN_z {f : Nat → Bool} {n : Nat} (h : ∀ i, i < n → f i = false) : mkN f n = 0 := by
  apply Nat.eq_of_testBit_eq
  intro i
  rw [mkN_bit, Nat.zero_testBit]
  by_cases hi : i < n
  · rw [h i hi]; simp
  · simp [hi]
theorem mkN_congr {f g : Nat → Bool} {n : Nat} (h : ∀ i, i < n → f i = g i) : mkN f n = mkN g n := by
  apply Nat.eq_of_testBit_eq
  intro i
  rw [mkN_bit, mkN_bit]
  by_cases hi : i < n
  · rw [h i hi]
  · simp [hi]
/-- one more comes in -/
theorem mkN_in {f g : Nat → Bool} {n p : Nat} (hp : p < n) (h : ∀ i, i < n → g i = (f i || decide (i = p))) : mkN f n ||| 2 ^ p = mkN g n := by
  apply Nat.eq_of_testBit_eq
  intro i
  rw [Nat.testBit_or, mkN_bit, mkN_bit, Nat.testBit_two_pow]
  by_cases hi : i < n
  · rw [h i hi]
    have : decide (p = i) = decide (i = p) := by rw [decide_eq_decide]; exact eq_comm
    simp [hi, this]
  · have : ¬ p = i := by omega
    simp [hi, this]
section SETS
variable {γ : rG} {l : Launch} {sh : Nat × (Nat → Nat) × (Nat → Nat)} {I : Nat → Nat → Int32} {J : Nat → Nat → Int64} {R : Nat → Nat → Option Nat} {a q : Nat} {P : Pk}
theorem hi_step (hP : PkV P) {c i p : Nat} (hp : p < pN P) (h1 : pC P p = c) (hi : i < cnt (pC P) c (pN P)) (h2 : pL P p = cnt (pC P) c (pN P) - (i + 1)) : hiM P c i ||| 2 ^ p = hiM P c (i + 1) := by
  refine mkN_in hp (fun j hj => ?_)
  unfold hiS
  by_cases hc : pC P j = c
  · have hb : (pC P j == c) = true := beq_iff_eq.mpr hc
    rw [hb, Bool.true_and, Bool.true_and]
    have hjl := (hP.2.2.2.2.1 j hj).2
    rw [hc] at hjl
    by_cases hjp : j = p
    · subst hjp
      simp
      omega
    · have hne : pL P j ≠ pL P p := fun z => hjp (hP.2.2.2.2.2.1 j p hj hp (hc.trans h1.symm) z)
      have hl := (hP.2.2.2.2.1 p hp).2
      rw [h1] at hl
      simp only [hjp, decide_false, Bool.or_false, decide_eq_decide]
      omega
  · have hb : (pC P j == c) = false := beq_eq_false_iff_ne.mpr hc
    have hjp : ¬ j = p := fun z => hc (by rw [z]; exact h1)
    simp [hb, hjp]
theorem hi_0 (hP : PkV P) {c : Nat} : hiM P c 0 = 0 := by
  refine mkN_z (fun i hi => ?_)
  unfold hiS
  by_cases hc : pC P i = c
  · have := (hP.2.2.2.2.1 i hi).2
    rw [hc] at this
    simp
    intro _
    omega
  · simp [hc]
theorem hiM_31 (hP : PkV P) {c k : Nat} : hiM P c k < 2 ^ 31 := mkN_31 _ (by have := hP.2.1; omega)
theorem ouM_31 (hP : PkV P) : ouM P < 2 ^ 31 := mkN_31 _ (by have := hP.2.1; omega)
theorem ptA_ex (hP : PkV P) {c y : Nat} (hy : y < cnt (pC P) c (pN P)) : ∃ p, p < pN P ∧ pC P p = c ∧ pL P p = y ∧ ptA P (nI c) (nI y) = nI p := by
  obtain ⟨p, hp, e1, e2⟩ := pk_at hP hy
  exact ⟨p, hp, e1, e2, by rw [← e1, ← e2]; exact ptA_at hP hp⟩
theorem hgt_at (hP : PkV P) {c : Nat} (hc : c < pW P) : hgt P (nI c) = nI (cnt (pC P) c (pN P)) := by
  have := hP.2.2.2.1
  unfold hgt
  rw [if_pos ⟨nI_pos (by omega), nI_lt hc (by omega)⟩, nI_clamp (by omega)]
theorem highest_loop {c k : Nat} (hA : At2 sh R a) (hP : PkV P) (hC : PkC I a P) (hc : c < pW P) (hk : k ≤ cnt (pC P) c (pN P)) : ∀ j i, i + j = k → s_X2_highest_5 γ l a (nI c) (nI k) (nI (hiM P c i)) (nI (i + 1)) (sh, I, J, R) (fun hf r => hf = (sh, I, J, R) ∧ r = some (.int (nI (hiM P c k)))) := by
  have h8 := hP.2.1
  have hh := cnt_le (pC P) c (pN P)
  intro j
  induction j with
  | zero =>
    intro i hi
    have e : i = k := by omega
    subst e
    exact w_X2_highest_5 hA ⟨fun _ => ⟨rfl, rfl⟩, fun z => absurd (nI_lt (by omega) (by omega)) z⟩
  | succ j ih =>
    intro i hi
    have nx := ih (i + 1) (by omega)
    obtain ⟨p, hp, e1, e2, e3⟩ := ptA_ex hP (show cnt (pC P) c (pN P) - (i + 1) < cnt (pC P) c (pN P) by omega)
    refine w_X2_highest_5 hA ⟨fun z => absurd z (nI_nlt (by omega) (by omega)), fun _ => ⟨_, ct_heightOf hA hP.inn hC, _, ct_partAt hA hP hC, ?_⟩⟩
    rw [hgt_at hP hc, pk_sub (by omega), e3, nI_1]
    refine ⟨fun z => ?_, fun _ => ?_⟩
    · exact absurd (show nI p < 0 by rw [z]; decide) (nI_pos (by omega))
    · rw [bt_one (by omega), bt_or (hiM_31 hP) (bt_p (by omega)), hi_step hP hp e1 (by omega) e2]
      exact nx
theorem ct_highest {c k : Nat} (hA : At2 sh R a) (hP : PkV P) (hC : PkC I a P) (hc : c < pW P) (hk : k ≤ cnt (pC P) c (pN P)) : rMet γ l m_X2_highest [.ref a, .int (nI c), .int (nI k)] (sh, I, J, R) (sh, I, J, R) (some (.int (nI (hiM P c k)))) := by
  have lp := highest_loop (γ := γ) (l := l) (J := J) hA hP hC hc hk k 0 (by omega)
  rw [hi_0 hP] at lp
  exact e_X2_highest (rW_pure (w_X2_highest_0 hA lp))
theorem mhighest_loop {c k : Nat} (hA : At9 sh R a) (hq : q < 22) (hP : PkV P) (hM : PkM I a q P) (hc : c < pW P) (hk : k ≤ cnt (pC P) c (pN P)) : ∀ j i, i + j = cnt (pC P) c (pN P) → cnt (pC P) c (pN P) - k ≤ i → s_X9_highest_17 γ l a (nI q) (nI c) (nI (cnt (pC P) c (pN P))) (nI (mkN (loS P c (cnt (pC P) c (pN P) - k) i) (pN P))) (nI i) (sh, I, J, R) (fun hf r => hf = (sh, I, J, R) ∧ r = some (.int (nI (hiM P c k)))) := by
  have h8 := hP.2.1
  have hh := cnt_le (pC P) c (pN P)
  intro j
  induction j with
  | zero =>
    intro i hi _
    refine w_X9_highest_17 hA ⟨fun _ => ⟨rfl, ?_⟩, fun z => absurd (nI_le (by omega) (by omega)) z⟩
    rw [show i = cnt (pC P) c (pN P) by omega]
    congr 3
    refine mkN_congr (fun p hp => ?_)
    unfold hiS loS
    by_cases hcp : pC P p = c
    · have := (hP.2.2.2.2.1 p hp).2
      rw [hcp] at this
      simp only [hcp, beq_self_eq_true, Bool.true_and, this, decide_true, Bool.and_true, decide_eq_decide]
      omega
    · have hb : (pC P p == c) = false := beq_eq_false_iff_ne.mpr hcp
      rw [hb, Bool.false_and, Bool.false_and]
  | succ j ih =>
    intro i hi hki
    have nx := ih (i + 1) (by omega) (by omega)
    obtain ⟨p, hp, e1, e2, e3⟩ := ptA_ex hP (show i < cnt (pC P) c (pN P) by omega)
    refine w_X9_highest_17 hA ⟨fun z => absurd z (nI_ge (by omega) (by omega)), fun _ => ⟨_, ct_mptA hA hq h8 hM, ?_⟩⟩
    rw [e3, bt_one (by omega), bt_or (mkN_31 _ (by omega)) (bt_p (by omega)), nI_1, mkN_in (g := loS P c (cnt (pC P) c (pN P) - k) (i + 1)) hp]
    · exact nx
    · intro r hr
      unfold loS
      by_cases hcr : pC P r = c
      · have hb : (pC P r == c) = true := beq_iff_eq.mpr hcr
        rw [hb, Bool.true_and, Bool.true_and]
        by_cases hrp : r = p
        · subst hrp; simp; omega
        · have hne : pL P r ≠ pL P p := fun z => hrp (hP.2.2.2.2.2.1 r p hr hp (hcr.trans e1.symm) z)
          simp only [hrp, decide_false, Bool.or_false]
          have : (pL P r < i + 1) ↔ (pL P r < i) := by omega
          simp [this]
      · have hb : (pC P r == c) = false := beq_eq_false_iff_ne.mpr hcr
        have hrp : ¬ r = p := fun z => hcr (by rw [z]; exact e1)
        simp [hb, hrp]
theorem ct_mhighest {c k : Nat} (hA : At9 sh R a) (hq : q < 22) (hP : PkV P) (hM : PkM I a q P) (hc : c < pW P) (hk : k ≤ cnt (pC P) c (pN P)) : rMet γ l m_X9_highest [.ref a, .int (nI q), .int (nI c), .int (nI k)] (sh, I, J, R) (sh, I, J, R) (some (.int (nI (hiM P c k)))) := by
  have h8 := hP.2.1
  refine e_X9_highest (rW_pure (w_X9_highest_0 hA ⟨_, ct_layersOf hA hq h8 hM, ?_⟩))
  have lp := mhighest_loop (γ := γ) (l := l) (J := J) hA hq hP hM hc hk k (cnt (pC P) c (pN P) - k) (by omega) (Nat.le_refl _)
  rw [mkN_z (fun i hi => by unfold loS; simp)] at lp
  rw [own_eq hP hc, pk_sub hk]
  exact lp
/-! outer faces -/
def fBit (u : Bool) (p : Nat) : Nat := if u then 2 * p else 2 * p + 1
theorem ou_step (hP : PkV P) {c hi lo : Nat} (hhi : hi < pN P) (h1 : pC P hi = c) (h2 : pL P hi + 1 = cnt (pC P) c (pN P)) (hlo : lo < pN P) (h3 : pC P lo = c) (h4 : pL P lo = 0) :
    (mkN (fcS P c) (2 * pN P) ||| 2 ^ (fBit (pU P hi) hi)) ||| 2 ^ (fBit (!pU P lo) lo) = mkN (fcS P (c + 1)) (2 * pN P) := by
  have hb1 : fBit (pU P hi) hi < 2 * pN P := by unfold fBit; split <;> omega
  have hb2 : fBit (!pU P lo) lo < 2 * pN P := by unfold fBit; split <;> omega
  rw [mkN_in (g := fun f => fcS P c f || decide (f = fBit (pU P hi) hi)) hb1 (fun i _ => rfl)]
  refine mkN_in hb2 (fun f hf => ?_)
  have hp : f / 2 < pN P := by omega
  have hpl := (hP.2.2.2.2.1 (f / 2) hp).2
  unfold fcS fcB
  by_cases hc : pC P (f / 2) = c
  · rw [hc] at hpl ⊢
    have d1 : decide (c < c + 1) = true := by simp
    have d2 : decide (c < c) = false := by simp
    rw [d1, d2, Bool.true_and, Bool.false_and, Bool.false_or]
    have t1 : (pL P (f / 2) + 1 = cnt (pC P) c (pN P)) ↔ f / 2 = hi := by
      constructor
      · intro z; exact hP.2.2.2.2.2.1 _ _ hp hhi (hc.trans h1.symm) (by omega)
      · intro z; rw [z]; exact h2
    have t2 : (pL P (f / 2) = 0) ↔ f / 2 = lo := by
      constructor
      · intro z; exact hP.2.2.2.2.2.1 _ _ hp hlo (hc.trans h3.symm) (by omega)
      · intro z; rw [z]; exact h4
    have s1 : ((pU P (f / 2) == decide (f % 2 = 0)) && decide (pL P (f / 2) + 1 = cnt (pC P) c (pN P))) = decide (f = fBit (pU P hi) hi) := by
      rw [show decide (pL P (f / 2) + 1 = cnt (pC P) c (pN P)) = decide (f / 2 = hi) from by rw [decide_eq_decide]; exact t1]
      by_cases e : f / 2 = hi
      · rw [e]; unfold fBit
        cases pU P hi <;> by_cases h0 : f % 2 = 0 <;> simp [h0] <;> omega
      · have e2 : ¬ f = fBit (pU P hi) hi := by unfold fBit; split <;> omega
        simp [e, e2]
    have s2 : ((pU P (f / 2) != decide (f % 2 = 0)) && decide (pL P (f / 2) = 0)) = decide (f = fBit (!pU P lo) lo) := by
      rw [show decide (pL P (f / 2) = 0) = decide (f / 2 = lo) from by rw [decide_eq_decide]; exact t2]
      by_cases e : f / 2 = lo
      · rw [e]; unfold fBit
        cases pU P lo <;> by_cases h0 : f % 2 = 0 <;> simp [h0] <;> omega
      · have e2 : ¬ f = fBit (!pU P lo) lo := by unfold fBit; split <;> omega
        simp [e, e2]
    rw [s1, s2]
  · have e1 : ¬ f = fBit (pU P hi) hi := by
      intro z; apply hc; rw [← h1]; congr 1; rw [z]; unfold fBit; split <;> omega
    have e2 : ¬ f = fBit (!pU P lo) lo := by
      intro z; apply hc; rw [← h3]; congr 1; rw [z]; unfold fBit; split <;> omega
    have e3 : (pC P (f / 2) < c + 1) ↔ (pC P (f / 2) < c) := by omega
    simp [e1, e2, e3]
theorem outerFaces_loop (hA : At2 sh R a) (hP : PkV P) (hC : PkC I a P) : ∀ j c, c + j = pW P → s_X2_outerFaces_4 γ l a (nI (mkN (fcS P c) (2 * pN P))) (nI c) (sh, I, J, R) (fun hf r => hf = (sh, I, J, R) ∧ r = some (.int (nI (ouM P)))) := by
  have h8 := hP.2.1
  have h4 := hP.2.2.2.1
  intro j
  induction j with
  | zero =>
    intro c hc
    have e : c = pW P := by omega
    subst e
    exact w_X2_outerFaces_4 hA ⟨fun _ => ⟨rfl, rfl⟩, fun z => absurd (by rw [hC.2.1]; exact nI_le (Nat.le_refl _) (by omega)) z⟩
  | succ j ih =>
    intro c hc
    have nx := ih (c + 1) (by omega)
    have hpos := hP.2.2.2.2.2.2.1 c (by omega)
    have hle := cnt_le (pC P) c (pN P)
    obtain ⟨hi, hhi, e1, e2, e3⟩ := ptA_ex hP (show cnt (pC P) c (pN P) - 1 < cnt (pC P) c (pN P) by omega)
    obtain ⟨lo, hlo, f1, f2, f3⟩ := ptA_ex hP hpos
    have st := ou_step hP hhi e1 (by omega) hlo f1 f2
    have q1 := (hC.2.2.1 hi hhi).2.2
    have q2 := (hC.2.2.1 lo hlo).2.2
    have b1 : fBit (pU P hi) hi < 31 := by unfold fBit; split <;> omega
    have b2 : fBit (!pU P lo) lo < 31 := by unfold fBit; split <;> omega
    have n1 : ∀ p, p < 8 → ¬ nI p = -1 := fun p hp z => absurd (show nI p < 0 by rw [z]; decide) (nI_pos (by omega))
    have n31 := mkN_31 (fcS P c) (n := 2 * pN P) (by omega)
    have b67 : ∀ s0 : Int32, s0 = nI (fBit (pU P hi) hi) → s_X2_outerFaces_67 γ l a (nI c) (nI lo) s0 1 (nI (mkN (fcS P c) (2 * pN P))) (sh, I, J, R) (fun hf r => hf = (sh, I, J, R) ∧ r = some (.int (nI (ouM P)))) := by
      intro s0 hs0
      subst hs0
      refine w_X2_outerFaces_67 hA ⟨vp_in_nI (by omega) (by decide), ?_⟩
      rw [nI_clamp (by omega), q2, nz_0, nI_1, show (2 : Int32) = nI 2 by decide, pk_mul, nI_1, bt_one b1, bt_or n31 (bt_p b1)]
      refine ⟨fun z => ?_, fun z => ?_⟩
      · rw [z] at st b2
        rw [show 2 * lo = fBit (!false) lo from rfl, bt_one b2, bt_or (Nat.or_lt_two_pow n31 (bt_p b1)) (bt_p b2), st]
        exact nx
      · have z' : pU P lo = true := by simpa using z
        rw [z'] at st b2
        rw [show 2 * lo + 1 = fBit (!true) lo from rfl, bt_one b2, bt_or (Nat.or_lt_two_pow n31 (bt_p b1)) (bt_p b2), st]
        exact nx
    refine w_X2_outerFaces_4 hA ⟨fun z => absurd z (by rw [hC.2.1]; exact nI_ge (by omega) (by omega)), fun _ => ⟨vp_in_nI (by omega) (by decide), _, ct_partAt hA hP hC, _, ct_partAt hA hP hC, ?_⟩⟩
    rw [nI_clamp (by omega), hC.2.2.2.1 c (by omega), show (1 : Int32) = nI 1 by decide, pk_sub (by omega), e3, show (0 : Int32) = nI 0 by decide, f3]
    refine ⟨fun z => absurd z (n1 hi (by omega)), fun _ => ⟨fun z => absurd z (n1 lo (by omega)), fun _ => ⟨vp_in_nI (by omega) (by decide), ?_⟩⟩⟩
    rw [nI_clamp (by omega), q1, show nI 0 = 0 by decide, nz_0]
    refine ⟨fun z => b67 _ ?_, fun z => b67 _ ?_⟩
    · rw [z, show (2 : Int32) = nI 2 by decide, pk_mul, nI_add]; rfl
    · rw [show pU P hi = true by simpa using z, show (2 : Int32) = nI 2 by decide, pk_mul]; rfl
theorem ou_0 : mkN (fcS P 0) (2 * pN P) = 0 := mkN_z (fun i _ => by unfold fcS; simp)
theorem ct_outerFaces (hA : At2 sh R a) (hP : PkV P) (hC : PkC I a P) : rMet γ l m_X2_outerFaces [.ref a] (sh, I, J, R) (sh, I, J, R) (some (.int (nI (ouM P)))) := by
  have lp := outerFaces_loop (γ := γ) (l := l) (J := J) hA hP hC (pW P) 0 (by omega)
  rw [ou_0] at lp
  exact e_X2_outerFaces (rW_pure (w_X2_outerFaces_0 hA lp))
theorem outer_loop (hA : At9 sh R a) (hq : q < 22) (hP : PkV P) (hM : PkM I a q P) : ∀ j c, c + j = pW P → s_X9_outer_4 γ l a (nI q) (nI (mkN (fcS P c) (2 * pN P))) (nI c) (sh, I, J, R) (fun hf r => hf = (sh, I, J, R) ∧ r = some (.int (nI (ouM P)))) := by
  have h8 := hP.2.1
  have h4 := hP.2.2.2.1
  intro j
  induction j with
  | zero =>
    intro c hc
    have e : c = pW P := by omega
    subst e
    refine w_X9_outer_4 hA ⟨vp_in_nI hq (by decide), fun _ => ⟨rfl, rfl⟩, fun z => absurd ?_ z⟩
    rw [nI_clamp (by omega), hM.2.1]; exact nI_le (Nat.le_refl _) (by omega)
  | succ j ih =>
    intro c hc
    have nx := ih (c + 1) (by omega)
    have hpos := hP.2.2.2.2.2.2.1 c (by omega)
    have hle := cnt_le (pC P) c (pN P)
    obtain ⟨hi, hhi, e1, e2, e3⟩ := ptA_ex hP (show cnt (pC P) c (pN P) - 1 < cnt (pC P) c (pN P) by omega)
    obtain ⟨lo, hlo, f1, f2, f3⟩ := ptA_ex hP hpos
    have st := ou_step hP hhi e1 (by omega) hlo f1 f2
    have q1 := (hM.2.2 hi hhi).2.2
    have q2 := (hM.2.2 lo hlo).2.2
    have b1 : fBit (pU P hi) hi < 31 := by unfold fBit; split <;> omega
    have b2 : fBit (!pU P lo) lo < 31 := by unfold fBit; split <;> omega
    have n31 := mkN_31 (fcS P c) (n := 2 * pN P) (by omega)
    have b65 : ∀ s0 : Int32, (((2 : Int32) * nI hi) + s0) = nI (fBit (pU P hi) hi) → s_X9_outer_65 γ l a (nI q) (nI c) (nI lo) s0 ((2 : Int32) * nI hi) 1 (nI (mkN (fcS P c) (2 * pN P))) (sh, I, J, R) (fun hf r => hf = (sh, I, J, R) ∧ r = some (.int (nI (ouM P)))) := by
      intro s0 hs0
      refine w_X9_outer_65 hA ⟨by rw [e8]; exact vp_in_nI (by omega) (by decide), ?_⟩
      rw [hs0, e8, nI_clamp (by omega), q2, nz_0, nI_1, show (2 : Int32) = nI 2 by decide, pk_mul, nI_1, bt_one b1, bt_or n31 (bt_p b1)]
      refine ⟨fun z => ?_, fun z => ?_⟩
      · rw [z] at st b2
        rw [show nI (2 * lo) + 0 = nI (fBit (!false) lo) from by rw [show (0 : Int32) = nI 0 by decide, nI_add]; rfl, bt_one b2, bt_or (Nat.or_lt_two_pow n31 (bt_p b1)) (bt_p b2), st]
        exact nx
      · have z' : pU P lo = true := by simpa using z
        rw [z'] at st b2
        rw [show 2 * lo + 1 = fBit (!true) lo from rfl, bt_one b2, bt_or (Nat.or_lt_two_pow n31 (bt_p b1)) (bt_p b2), st]
        exact nx
    refine w_X9_outer_4 hA ⟨vp_in_nI hq (by decide), fun z => absurd z (by rw [nI_clamp (by omega), hM.2.1]; exact nI_ge (by omega) (by omega)), fun _ => ⟨_, ct_layersOf hA hq h8 hM, _, ct_mptA hA hq h8 hM, _, ct_mptA hA hq h8 hM, ?_⟩⟩
    rw [own_eq hP (by omega), show (1 : Int32) = nI 1 by decide, pk_sub (by omega), e3, show (0 : Int32) = nI 0 by decide, f3, e8, nI_clamp (by omega), q1, show nI 0 = 0 by decide, nz_0]
    refine ⟨vp_in_nI (by omega) (by decide), fun z => b65 _ ?_, fun z => b65 _ ?_⟩
    · rw [z, show (2 : Int32) = nI 2 by decide, pk_mul, nI_add]; rfl
    · rw [show pU P hi = true by simpa using z, show (2 : Int32) = nI 2 by decide, pk_mul, show (0 : Int32) = nI 0 by decide, nI_add]; rfl
theorem ct_outer (hA : At9 sh R a) (hq : q < 22) (hP : PkV P) (hM : PkM I a q P) : rMet γ l m_X9_outer [.ref a, .int (nI q)] (sh, I, J, R) (sh, I, J, R) (some (.int (nI (ouM P)))) := by
  have lp := outer_loop (γ := γ) (l := l) (J := J) hA hq hP hM (pW P) 0 (by omega)
  rw [ou_0] at lp
  exact e_X9_outer (rW_pure (w_X9_outer_0 hA lp))
end SETS
