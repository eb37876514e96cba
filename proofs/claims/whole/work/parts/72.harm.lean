/-! ===== harm of undoing an act ===== -/
def hmS (vr : Nat → Int32) (Rs : List Rul) (q : Int32 × Int32) (s : Nat) : Int32 × Int32 := if firJ vr s Rs = -1 then q else if q.1 = -1 ∨ wthJ vr Rs (firJ vr s Rs).toNatClampNeg < q.2 ∨ (wthJ vr Rs (firJ vr s Rs).toNatClampNeg = q.2 ∧ firJ vr s Rs < q.1) then (firJ vr s Rs, wthJ vr Rs (firJ vr s Rs).toNatClampNeg) else q
def hmJ (vr : Nat → Int32) (Rs : List Rul) : Nat → Int32 × Int32
  | 0 => (-1, 0)
  | s + 1 => hmS vr Rs (hmJ vr Rs s) s
theorem fir_or {vr : Nat → Int32} {s : Nat} {Rs : List Rul} : firJ vr s Rs = -1 ∨ ∃ r, r < Rs.length ∧ firJ vr s Rs = nI r := by
  rcases frJ_or (vr := vr) (srt := s) (Rs := Rs) Rs.length 0 with q | ⟨r, _, q2, q3⟩
  · exact Or.inl q
  · exact Or.inr ⟨r, by omega, q3⟩
theorem nI_ne1 {r : Nat} (h : r < 2 ^ 31) : ¬ nI r = -1 := fun z => absurd (show nI r < 0 by rw [z]; decide) (nI_pos h)
theorem hm_inv {vr : Nat → Int32} {Rs : List Rul} (h16 : Rs.length ≤ 16) : ∀ s, (hmJ vr Rs s).1 = -1 ∨ ∃ r, r < Rs.length ∧ (hmJ vr Rs s).1 = nI r ∧ (hmJ vr Rs s).2 = wthJ vr Rs r := by
  intro s
  induction s with
  | zero => exact Or.inl rfl
  | succ s ih =>
    simp only [hmJ, hmS]
    by_cases h1 : firJ vr s Rs = -1
    · rw [if_pos h1]; exact ih
    · rw [if_neg h1]
      split
      · rcases fir_or (vr := vr) (s := s) (Rs := Rs) with q | ⟨r, q1, q2⟩
        · exact absurd q h1
        · refine Or.inr ⟨r, q1, q2, ?_⟩
          show wthJ vr Rs (firJ vr s Rs).toNatClampNeg = wthJ vr Rs r
          rw [q2, nI_clamp (by omega)]
      · exact ih
def vrA (T : Sht) (i : Nat) : Nat → Int32 := vr5 (nI (yK T i).1) (nI (yK T i).2.1) (nI (yK T i).2.2.1) (nI i) (nI (yK T i).2.2.2.1)
def hrA (Rs : List Rul) (T : Sht) (i : Nat) : Int32 := (hmJ (vrA T i) Rs 3).1
def hvA (Rs : List Rul) (T : Sht) (i : Nat) : Int32 := if hrA Rs T i = -1 then (if (yK T i).1 = 3 ∨ (yK T i).1 = 4 then 10 else 0) else (hmJ (vrA T i) Rs 3).2
theorem hld_nat (v : Int32) : ∃ k : Nat, k ≤ 1000 ∧ hldJ v = nI k := by
  rw [hldJ_eq]
  by_cases h1 : 0 ≤ v
  · rw [if_pos h1]
    by_cases h2 : v ≤ 1000
    · rw [if_pos h2]
      obtain ⟨k, hk, e⟩ := nI_of2 (M := 1000) (n := 1000) (by decide) (Int32.not_lt.mpr h1) h2
      exact ⟨k, hk, e⟩
    · rw [if_neg h2]; exact ⟨1000, by omega, by decide⟩
  · rw [if_neg h1]; exact ⟨0, by omega, by decide⟩
theorem hv_nat {Rs : List Rul} {T : Sht} (h16 : Rs.length ≤ 16) (i : Nat) : ∃ k : Nat, k ≤ 1000 ∧ hvA Rs T i = nI k := by
  unfold hvA
  by_cases h : hrA Rs T i = -1
  · rw [if_pos h]
    split
    · exact ⟨10, by omega, by decide⟩
    · exact ⟨0, by omega, by decide⟩
  · rw [if_neg h]
    rcases hm_inv (vr := vrA T i) (Rs := Rs) h16 3 with q | ⟨r, _, _, q3⟩
    · exact absurd q h
    · rw [q3]; exact hld_nat _
def Pp (p b _j : Nat) : Prop := b = p + 6 ∨ b = p + 7
def Fs (m b j : Nat) : Prop := b = m + 23 ∨ b = m + 24 ∨ (b = m ∧ (j = 54 ∨ j = 55))
section HRM
variable {γ : rG} {l : Launch} {sh : Nat × (Nat → Nat) × (Nat → Nat)} {I : Nat → Nat → Int32} {J : Nat → Nat → Int64} {R : Nat → Nat → Option Nat} {a p m s n : Nat} {vr : Nat → Int32} {Rs : List Rul} {T : Sht}
theorem harmRule_loop (hA : At3 sh R p) (hV : V_prc Rs) (hC : PrC I p Rs) (hvr : ∀ i, i < 5 → I (p + 6) i = vr i) : ∀ j k (I1 : Nat → Nat → Int32), k + j = 3 → Sm (fun b _ => b = p + 7) I I1 → s_X5_harmRule_37 γ l p (hmJ vr Rs k).1 (hmJ vr Rs k).2 (nI k) (sh, I1, J, R) (fun hf v => ∃ I', hf = (sh, I', J, R) ∧ v = some (.int (hmJ vr Rs 3).1) ∧ Sm (fun b _ => b = p + 7) I I') := by
  have h16 := hV.1
  intro j
  induction j with
  | zero =>
    intro k I1 hk hS
    have e : k = 3 := by omega
    subst e
    exact w_X5_harmRule_37 hA ⟨fun _ => ⟨I1, rfl, rfl, hS⟩, fun z => absurd (by decide) z⟩
  | succ j ih =>
    intro k I1 hk hS
    have hC1 : PrC I1 p Rs := hC.loc (fun b j q1 q2 => hS b j (by simp; omega))
    have hvr1 : ∀ i, i < 5 → I1 (p + 6) i = vr i := fun i hi => (hS _ _ (by simp)).trans (hvr i hi)
    obtain ⟨I2, c1, c2⟩ := ct_firstRule (γ := γ) (l := l) (J := J) (vr := vr) (srt := k) hA hV hC1 (by omega) hvr1
    have nx : ∀ (x y : Int32) (I3 : Nat → Nat → Int32), hmJ vr Rs (k + 1) = (x, y) → Sm (fun b _ => b = p + 7) I I3 → s_X5_harmRule_37 γ l p x y (nI k + 1) (sh, I3, J, R) (fun hf v => ∃ I', hf = (sh, I', J, R) ∧ v = some (.int (hmJ vr Rs 3).1) ∧ Sm (fun b _ => b = p + 7) I I') := by
      intro x y I3 hxy h3
      have := ih (k + 1) I3 (by omega) h3
      rw [hxy] at this
      rw [nI_1]
      exact this
    refine w_X5_harmRule_37 hA ⟨fun z => absurd z (nI_ge (show k < 3 by omega) (by decide)), fun _ => ⟨I2, _, c1, fun z => nx _ _ _ ?_ (hS.tr c2), fun z => ?_⟩⟩
    · simp only [hmJ, hmS, if_pos z]
    · rcases fir_or (vr := vr) (s := k) (Rs := Rs) with q | ⟨r, q1, q2⟩
      · exact absurd q z
      · have hC2 : PrC I2 p Rs := hC1.loc (fun b j q1 q2 => c2 b j (by simp; omega))
        have hvr2 : ∀ i, i < 5 → I2 (p + 6) i = vr i := fun i hi => (c2 _ _ (by simp)).trans (hvr1 i hi)
        obtain ⟨I3, d1, d2⟩ := ct_worth (γ := γ) (l := l) (J := J) (vr := vr) hA hV hC2 hvr2 q1
        have hst : hmJ vr Rs (k + 1) = if (hmJ vr Rs k).1 = -1 ∨ wthJ vr Rs r < (hmJ vr Rs k).2 ∨ (wthJ vr Rs r = (hmJ vr Rs k).2 ∧ nI r < (hmJ vr Rs k).1) then (nI r, wthJ vr Rs r) else hmJ vr Rs k := by
          simp only [hmJ, hmS, q2, nI_clamp (show r < 2 ^ 31 by omega), if_neg (nI_ne1 (show r < 2 ^ 31 by omega))]
        have h3 := (hS.tr c2).tr d2
        rw [q2]
        refine ⟨I3, _, d1, fun y => nx _ _ _ ?_ h3, fun y => ⟨fun x => nx _ _ _ ?_ h3, fun x => ⟨fun w => ⟨fun u => nx _ _ _ ?_ h3, fun u => nx _ _ _ ?_ h3⟩, fun w => nx _ _ _ ?_ h3⟩⟩⟩
        · rw [hst, if_pos (Or.inl y)]
        · rw [hst, if_pos (Or.inr (Or.inl x))]
        · rw [hst, if_neg]
          intro t
          rcases t with t | t | t
          · exact y t
          · exact x t
          · exact Int32.not_lt.mpr u t.2
        · rw [hst, if_pos (Or.inr (Or.inr ⟨w, Int32.not_le.mp u⟩))]
        · rw [hst, if_neg]
          intro t
          rcases t with t | t | t
          · exact y t
          · exact x t
          · exact w t.1
theorem ct_harmRule {i : Nat} (hA5 : At5 sh R a) (hA : At3 sh R p) (hVs : V_sheet n T) (hCs : C_sheet I a T) (hV : V_prc Rs) (hC : PrC I p Rs) (hi : i < yA T) :
    ∃ I', rMet γ l m_X5_harmRule [.ref a, .int (nI i), .ref p] (sh, I, J, R) (sh, I', J, R) (some (.int (hrA Rs T i))) ∧ Sm (Pp p) I I' ∧ ∀ j, j < 5 → I' (p + 6) j = vrA T i j := by
  have h16 := hVs.2.2.1
  obtain ⟨r1, r2, r3, r4, r5⟩ := hCs.2.2.2 i hi
  have hv : vp_in (nI i) 16 := vp_in_nI (by omega) (by decide)
  have hC1 : PrC (vsI I (p + 6) (nI (yK T i).1) (nI (yK T i).2.1) (nI (yK T i).2.2.1) (nI i) (nI (yK T i).2.2.2.1)) p Rs := hC.loc (fun b j q1 q2 => vsI_sm b j (by omega))
  have lp := harmRule_loop (γ := γ) (l := l) (J := J) (vr := vrA T i) hA hV hC1 (fun j hj => vsI_at j hj) 3 0 _ (by omega) Sm.rf
  have key : s_X5_harmRule_0 γ l a (nI i) p (sh, I, J, R) (fun hf v => ∃ I', hf = (sh, I', J, R) ∧ v = some (.int (hrA Rs T i)) ∧ Sm (fun b _ => b = p + 7) (vsI I (p + 6) (nI (yK T i).1) (nI (yK T i).2.1) (nI (yK T i).2.2.1) (nI i) (nI (yK T i).2.2.2.1)) I') := by
    refine w_X5_harmRule_0 hA5 hA ⟨hv, hv, hv, hv, ?_⟩
    rw [nI_clamp (show i < 2 ^ 31 by omega), r1, r2, r3, r4]
    exact ⟨_, ct_setVars hA, lp⟩
  obtain ⟨I', h1, h2⟩ := rW_ex key
  refine ⟨I', e_X5_harmRule h1, fun b j q => ?_, fun j hj => ?_⟩
  · unfold Pp at q
    rw [h2 b j (by omega), vsI_sm b j (by omega)]
  · rw [h2 (p + 6) j (by omega)]; exact vsI_at j hj
theorem kind_b (hVs : V_sheet n T) {i : Nat} (hi : i < yA T) : (yK T i).1 < 6 := (hVs.2.2.2.2.2.2.2 i hi).1
theorem ct_harmOf {i : Nat} (hA5 : At5 sh R a) (hA : At3 sh R p) (hpa : p + 8 ≤ a ∨ a + 111 ≤ p) (hVs : V_sheet n T) (hCs : C_sheet I a T) (hV : V_prc Rs) (hC : PrC I p Rs) (hi : i < yA T) :
    ∃ I', rMet γ l m_X5_harmOf [.ref a, .int (nI i), .ref p] (sh, I, J, R) (sh, I', J, R) (some (.int (hvA Rs T i))) ∧ Sm (Pp p) I I' := by
  have h16 := hVs.2.2.1
  have hk := kind_b hVs hi
  obtain ⟨I1, c1, c2, c3⟩ := ct_harmRule (γ := γ) (l := l) (J := J) hA5 hA hVs hCs hV hC hi
  have hC1 : PrC I1 p Rs := hC.loc (fun b j q1 q2 => c2 b j (by unfold Pp; omega))
  have r1 : I1 (a + 4) i = nI (yK T i).1 := (c2 _ _ (by unfold Pp; omega)).trans (hCs.2.2.2 i hi).1
  have hv : vp_in (nI i) 16 := vp_in_nI (by omega) (by decide)
  have key : s_X5_harmOf_0 γ l a (nI i) p (sh, I, J, R) (fun hf v => ∃ I', hf = (sh, I', J, R) ∧ v = some (.int (hvA Rs T i)) ∧ Sm (Pp p) I I') := by
    refine w_X5_harmOf_0 hA5 hA ⟨I1, _, c1, fun z => ⟨hv, ?_⟩, fun z => ?_⟩
    · rw [nI_clamp (by omega), r1, show (3 : Int32) = nI 3 by decide, show (4 : Int32) = nI 4 by decide, nI_eq (by omega) (by decide), nI_eq (by omega) (by decide)]
      refine ⟨fun y => ⟨I1, rfl, ?_, c2⟩, fun y => ⟨hv, fun x => ⟨I1, rfl, ?_, c2⟩, fun x => ⟨I1, rfl, ?_, c2⟩⟩⟩
      · unfold hvA; rw [if_pos z, if_pos (Or.inl y)]
      · unfold hvA; rw [if_pos z, if_pos (Or.inr x)]
      · unfold hvA; rw [if_pos z, if_neg (by omega)]
    · rcases hm_inv (vr := vrA T i) (Rs := Rs) hV.1 3 with q | ⟨r, q1, q2, q3⟩
      · exact absurd q z
      · obtain ⟨I2, d1, d2⟩ := ct_worth (γ := γ) (l := l) (J := J) (vr := vrA T i) hA hV hC1 c3 q1
        have e : hrA Rs T i = nI r := q2
        rw [e]
        refine ⟨I2, _, d1, I2, rfl, ?_, c2.tr (d2.mono (fun b j q => Or.inr q))⟩
        unfold hvA
        rw [if_neg z, q3]
  obtain ⟨I', h1, h2⟩ := rW_ex key
  exact ⟨I', e_X5_harmOf h1, h2⟩
/-! the model -/
theorem mharm_loop {i : Nat} {N : Nat → Nat → Int32} (hA : At9 sh R m) (hV : V_prc Rs) (hM : PrM N m s Rs) (h18 : N m 18 = nI s) (hvr : ∀ i, i < 5 → N (m + 23) i = vr i) (hi : i < 16) {kd : Nat} (hkd : kd < 6) (hk : N (m + 33) i = nI kd) : ∀ j k (I1 : Nat → Nat → Int32), k + j = 3 → I1 m 54 = (hmJ vr Rs k).1 → (∀ b j, b ≠ m + 24 → ¬ (b = m ∧ j = 54) → I1 b j = N b j) → s_X9_harmOf_38 γ l m (nI i) (hmJ vr Rs k).2 (nI k) (sh, I1, J, R) (fun hf v => ∃ I', hf = (sh, I', J, R) ∧ v = some (.int (if (hmJ vr Rs 3).1 = -1 then (if kd = 3 ∨ kd = 4 then 10 else 0) else (hmJ vr Rs 3).2)) ∧ (I' m 54 = (hmJ vr Rs 3).1 ∧ ∀ b j, b ≠ m + 24 → ¬ (b = m ∧ j = 54) → I' b j = N b j)) := by
  have h16 := hV.1
  intro j
  induction j with
  | zero =>
    intro k I1 hk3 h54 hS
    have e : k = 3 := by omega
    subst e
    have hv : vp_in (nI i) 16 := vp_in_nI (by omega) (by decide)
    refine w_X9_harmOf_38 hA ⟨fun _ => ?_, fun z => absurd (by decide) z⟩
    rw [h54, nI_clamp (by omega), hS _ _ (by omega) (by omega), hk, show (3 : Int32) = nI 3 by decide, show (4 : Int32) = nI 4 by decide, nI_eq (by omega) (by decide), nI_eq (by omega) (by decide)]
    refine ⟨fun z => ⟨hv, fun y => ⟨I1, rfl, ?_, h54, hS⟩, fun y => ⟨hv, fun x => ⟨I1, rfl, ?_, h54, hS⟩, fun x => ⟨I1, rfl, ?_, h54, hS⟩⟩⟩, fun z => ⟨I1, rfl, ?_, h54, hS⟩⟩
    · rw [if_pos z, if_pos (Or.inl y)]
    · rw [if_pos z, if_pos (Or.inr x)]
    · rw [if_pos z, if_neg (by omega)]
    · rw [if_neg z]
  | succ j ih =>
    intro k I1 hk3 h54 hS
    have hM1 : PrM I1 m s Rs := hM.loc (fun b j q1 q2 => hS b j (by omega) (by omega))
    have hvr1 : ∀ i, i < 5 → I1 (m + 23) i = vr i := fun i hi => (hS _ _ (by omega) (by omega)).trans (hvr i hi)
    have h18' : I1 m 18 = nI s := (hS _ _ (by omega) (by omega)).trans h18
    obtain ⟨I2, c1, c2⟩ := ct_ruleOf (γ := γ) (l := l) (J := J) (vr := vr) (srt := k) hA hV hM1 h18' (by omega) hvr1
    have hS2 : ∀ b j, b ≠ m + 24 → ¬ (b = m ∧ j = 54) → I2 b j = N b j := fun b j q1 q2 => (c2 b j q1).trans (hS b j q1 q2)
    have h542 : I2 m 54 = (hmJ vr Rs k).1 := (c2 _ _ (by simp)).trans h54
    have nx : ∀ (y : Int32) (I3 : Nat → Nat → Int32), hmJ vr Rs (k + 1) = (I3 m 54, y) → (∀ b j, b ≠ m + 24 → ¬ (b = m ∧ j = 54) → I3 b j = N b j) → s_X9_harmOf_38 γ l m (nI i) y (nI k + 1) (sh, I3, J, R) (fun hf v => ∃ I', hf = (sh, I', J, R) ∧ v = some (.int (if (hmJ vr Rs 3).1 = -1 then (if kd = 3 ∨ kd = 4 then 10 else 0) else (hmJ vr Rs 3).2)) ∧ (I' m 54 = (hmJ vr Rs 3).1 ∧ ∀ b j, b ≠ m + 24 → ¬ (b = m ∧ j = 54) → I' b j = N b j)) := by
      intro y I3 hxy h3
      have := ih (k + 1) I3 (by omega) (by rw [hxy]) h3
      rw [hxy] at this
      rw [nI_1]
      exact this
    refine w_X9_harmOf_38 hA ⟨fun z => absurd z (nI_ge (show k < 3 by omega) (by decide)), fun _ => ⟨I2, _, c1, fun z => nx _ _ ?_ hS2, fun z => ?_⟩⟩
    · rw [h542]; simp only [hmJ, hmS, if_pos z]
    · rcases fir_or (vr := vr) (s := k) (Rs := Rs) with q | ⟨r, q1, q2⟩
      · exact absurd q z
      · have hM2 : PrM I2 m s Rs := hM.loc (fun b j q1 q2 => hS2 b j (by omega) (by omega))
        have hvr2 : ∀ i, i < 5 → I2 (m + 23) i = vr i := fun i hi => (hS2 _ _ (by omega) (by omega)).trans (hvr i hi)
        obtain ⟨I3, d1, d2⟩ := ct_says (γ := γ) (l := l) (J := J) (vr := vr) hA hV hM2 ((hS2 _ _ (by omega) (by omega)).trans h18) hvr2 q1
        have hst : hmJ vr Rs (k + 1) = if (hmJ vr Rs k).1 = -1 ∨ wthJ vr Rs r < (hmJ vr Rs k).2 ∨ (wthJ vr Rs r = (hmJ vr Rs k).2 ∧ nI r < (hmJ vr Rs k).1) then (nI r, wthJ vr Rs r) else hmJ vr Rs k := by
          simp only [hmJ, hmS, q2, nI_clamp (show r < 2 ^ 31 by omega), if_neg (nI_ne1 (show r < 2 ^ 31 by omega))]
        have h543 : I3 m 54 = (hmJ vr Rs k).1 := (d2 _ _ (by simp)).trans h542
        have hS3 : ∀ b j, b ≠ m + 24 → ¬ (b = m ∧ j = 54) → I3 b j = N b j := fun b j q1 q2 => (d2 b j q1).trans (hS2 b j q1 q2)
        have hS4 : ∀ b j, b ≠ m + 24 → ¬ (b = m ∧ j = 54) → up I3 m 54 (nI r) b j = N b j := fun b j q1 q2 => by rw [up_at, if_neg q2]; exact hS3 b j q1 q2
        have h544 : up I3 m 54 (nI r) m 54 = nI r := by rw [up_at, if_pos ⟨rfl, rfl⟩]
        rw [q2]
        refine ⟨I3, _, d1, ?_⟩
        rw [h543]
        refine ⟨fun y => nx _ _ ?_ hS4, fun y => ⟨fun x => nx _ _ ?_ hS3, fun x => ⟨fun w => ⟨fun u => nx _ _ ?_ hS4, fun u => nx _ _ ?_ hS3⟩, fun w => nx _ _ ?_ hS4⟩⟩⟩
        · rw [hst, if_pos (Or.inl y), h544]
        · rw [hst, if_neg, h543]
          intro t
          rcases t with t | t | t
          · exact y t
          · exact Int32.lt_asymm t x
          · rw [t.1] at x; exact Int32.lt_irrefl x
        · rw [hst, h544]
          by_cases e : nI r = (hmJ vr Rs k).1
          · rw [if_neg]
            · rw [e, w]
            · intro t
              rcases t with t | t | t
              · exact y t
              · rw [w] at t; exact Int32.lt_irrefl t
              · rw [e] at t; exact Int32.lt_irrefl t.2
          · have lt1 : nI r < (hmJ vr Rs k).1 := by
              rcases Int32.lt_or_eq_of_le u with v | v
              · exact v
              · exact absurd v e
            rw [if_pos (Or.inr (Or.inr ⟨w, lt1⟩))]
        · rw [hst, if_neg, h543]
          intro t
          rcases t with t | t | t
          · exact y t
          · rw [w] at t; exact Int32.lt_irrefl t
          · exact u (Int32.le_of_lt t.2)
        · rw [hst, h544, if_pos (Or.inr (Or.inl ?_))]
          rcases Int32.lt_or_eq_of_le (Int32.not_lt.mp x) with v | v
          · exact v
          · exact absurd v w
theorem cm_harmOf {i : Nat} (hA : At9 sh R m) (hVs : V_sheet n T) (hMs : M_sheet I m T) (hV : V_prc Rs) (hM : PrM I m s Rs) (h18 : I m 18 = nI s) (hi : i < yA T) :
    ∃ I', rMet γ l m_X9_harmOf [.ref m, .int (nI i)] (sh, I, J, R) (sh, I', J, R) (some (.int (hvA Rs T i))) ∧ I' m 54 = hrA Rs T i ∧ Sm (fun b j => Fs m b j ∧ ¬ (b = m ∧ j = 55)) I I' := by
  have h16 := hVs.2.2.1
  have hk := kind_b hVs hi
  obtain ⟨r1, r2, r3, r4, r5⟩ := hMs.2.2.2.2 i hi
  have hv : vp_in (nI i) 16 := vp_in_nI (by omega) (by decide)
  have hM1 : PrM (vsI I (m + 23) (nI (yK T i).1) (nI (yK T i).2.1) (nI (yK T i).2.2.1) (nI i) (nI (yK T i).2.2.2.1)) m s Rs := hM.loc (fun b j q1 q2 => vsI_sm b j (by omega))
  have lp := mharm_loop (γ := γ) (l := l) (J := J) (vr := vrA T i) (i := i) hA hV hM1 ((vsI_sm m 18 (by omega)).trans h18) (fun j hj => vsI_at j hj) (by omega) hk ((vsI_sm _ _ (by omega)).trans r1) 3 0 (up (vsI I (m + 23) (nI (yK T i).1) (nI (yK T i).2.1) (nI (yK T i).2.2.1) (nI i) (nI (yK T i).2.2.2.1)) m 54 (-1)) (by omega) (by rw [up_at, if_pos ⟨rfl, rfl⟩]; rfl) (fun b j _ q2 => by rw [up_at, if_neg q2])
  have key : s_X9_harmOf_0 γ l m (nI i) (sh, I, J, R) (fun hf v => ∃ I', hf = (sh, I', J, R) ∧ v = some (.int (hvA Rs T i)) ∧ (I' m 54 = hrA Rs T i ∧ ∀ b j, b ≠ m + 24 → ¬ (b = m ∧ j = 54) → I' b j = vsI I (m + 23) (nI (yK T i).1) (nI (yK T i).2.1) (nI (yK T i).2.2.1) (nI i) (nI (yK T i).2.2.2.1) b j)) := by
    refine w_X9_harmOf_0 hA ⟨hv, hv, hv, hv, ?_⟩
    rw [nI_clamp (show i < 2 ^ 31 by omega), r1, r2, r3, r4]
    exact ⟨_, ct_asks hA, lp⟩
  obtain ⟨I', h1, h2, h3⟩ := rW_ex key
  refine ⟨I', e_X9_harmOf h1, h2, fun b j q => ?_⟩
  unfold Fs at q
  rw [h3 b j (by omega) (by omega), vsI_sm b j (by omega)]
end HRM
