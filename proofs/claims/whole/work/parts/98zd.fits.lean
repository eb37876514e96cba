/-! ===== the model: fits, tells, rowEnds ===== -/
theorem fitS_iff {N : Nat} {F : Fnd} {t : Nat} : fitS N F t = true ↔ ∀ i, i < N → fKs F i = true → fVs F i = t.testBit i := by
  unfold fitS
  rw [beq_iff_eq]
  constructor
  · intro h i hi hk
    have : (t &&& skN N F).testBit i = (slN N F).testBit i := by rw [h]
    unfold skN slN at this
    rw [Nat.testBit_and, mkN_bit, mkN_bit] at this
    simp [hi, hk] at this
    exact this.symm
  · intro h
    apply Nat.eq_of_testBit_eq
    intro i
    unfold skN slN
    rw [Nat.testBit_and, mkN_bit, mkN_bit]
    by_cases hi : i < N
    · cases hk : fKs F i with
      | false => simp
      | true => simp [hi, h i hi hk]
    · simp [hi]
theorem fitD_iff {N : Nat} {F : Fnd} {t : Nat} : fitD N F t = true ↔ ∀ i, i < 2 * N → fKd F i = true → fVd F i = t.testBit i := by
  unfold fitD
  rw [beq_iff_eq]
  constructor
  · intro h i hi hk
    have : (t &&& dkN N F).testBit i = (diN N F).testBit i := by rw [h]
    unfold dkN diN at this
    rw [Nat.testBit_and, mkN_bit, mkN_bit] at this
    simp [hi, hk] at this
    exact this.symm
  · intro h
    apply Nat.eq_of_testBit_eq
    intro i
    unfold dkN diN
    rw [Nat.testBit_and, mkN_bit, mkN_bit]
    by_cases hi : i < 2 * N
    · cases hk : fKd F i with
      | false => simp
      | true => simp [hi, h i hi hk]
    · simp [hi]
theorem fitD_0 {N : Nat} {F : Fnd} : fitD N F 0 = decide (diN N F = 0) := by
  unfold fitD
  rw [Nat.zero_and]
  by_cases z : diN N F = 0
  · rw [z]; rfl
  · rw [decide_eq_false z]
    exact beq_eq_false_iff_ne.mpr (fun y => z y.symm)
/-- a row of numbers -/
def LsA (I : Nat → Nat → Int32) (r : Nat) (X : List Nat) : Prop := ∀ i, i < X.length → I r i = nI (X.getD i 0)
theorem LsA.push {I : Nat → Nat → Int32} {r m n : Nat} {X : List Nat} {v w : Int32} (h : LsA I r X) (hm : m ≠ r) (hv : v = nI n) : LsA (up (up I r X.length v) m 61 w) r (X ++ [n]) := by
  intro i hi
  rw [List.length_append, List.length_singleton] at hi
  rw [up_at, if_neg (by omega), up_at]
  by_cases e : i = X.length
  · subst e
    rw [if_pos ⟨rfl, rfl⟩, hv]
    congr 1
    simp [List.getD]
  · rw [if_neg (fun y => e y.2), h i (by omega)]
    congr 1
    unfold List.getD
    rw [List.getElem?_append_left (by omega)]
/-- how many fit, and the first -/
def FtS (I : Nat → Nat → Int32) (m c : Nat) (o : Option (List Nat)) : Prop := I m 60 = nI c ∧ match o with
  | none => I m 61 = -1
  | some X => I m 61 = nI X.length ∧ X.length ≤ 5 ∧ LsA I (m + 41) X
theorem FtS.loc {I I' : Nat → Nat → Int32} {m c : Nat} {o : Option (List Nat)} (h : FtS I m c o) (h1 : I' m 60 = I m 60) (h2 : I' m 61 = I m 61) (h3 : ∀ j, I' (m + 41) j = I (m + 41) j) : FtS I' m c o := by
  refine ⟨h1.trans h.1, ?_⟩
  cases o with
  | none => exact h2.trans h.2
  | some X => exact ⟨h2.trans h.2.1, h.2.2.1, fun i hi => (h3 i).trans (h.2.2.2 i hi)⟩
def Fft (m : Nat) : Nat → Nat → Prop := fun b j => (b = m ∧ (j = 60 ∨ j = 61)) ∨ b = m + 41
def endL (acts : List Nat) (n so : Nat) : List Nat := acts ++ ((if n = 0 then [] else [n]) ++ (if so = 0 then [] else [so]))
section FIT
variable {γ : rG} {l : Launch} {sh : Nat × (Nat → Nat) × (Nat → Nat)} {I : Nat → Nat → Int32} {J : Nat → Nat → Int64} {R : Nat → Nat → Option Nat} {m N c n so ts td : Nat} {F : Fnd} {o : Option (List Nat)} {acts : List Nat}
theorem ct_tells {X : List Nat} (hA : At9 sh R m) (h1 : I m 61 = nI X.length) (hl : X.length < 5) : rMet γ l m_X9_tells [.ref m, .int (nI n)] (sh, I, J, R) (sh, up (up I (m + 41) X.length (nI n)) m 61 (nI (X.length + 1)), J, R) none := by
  refine e_X9_tells (rW_pure (w_X9_tells_0 hA ?_))
  have e : up I (m + 41) X.length (nI n) m 61 = nI X.length := by rw [up_at, if_neg (by omega)]; exact h1
  rw [h1, nI_clamp (by omega), e, nI_1]
  exact ⟨vp_in_nI hl (by decide), rfl, rfl⟩
theorem ct_fits (hA : At9 sh R m) (h8 : N ≤ 8) (h39 : I m 39 = nI N) (hM : FdM I m N F) (h68 : I m 68 = nI acts.length) (hl : acts.length ≤ 3) (hac : LsA I (m + 44) acts) (hts : ts < 2 ^ 31) (htd : td < 2 ^ 31) (hn : n < 2 ^ 31) (hso : so < 2 ^ 31) (hS : FtS I m c o) :
    ∃ I', rMet γ l m_X9_fits [.ref m, .int (nI n), .int (nI ts), .int (nI so), .int (nI td)] (sh, I, J, R) (sh, I', J, R) none ∧ (FtS I' m (c + if fitS N F ts && fitD N F td then 1 else 0) (if fitS N F ts && fitD N F td then o.or (some (endL acts n so)) else o) ∧ Sm (Fft m) I I') := by
  suffices hh : s_X9_fits_0 γ l m (nI n) (nI ts) (nI so) (nI td) (sh, I, J, R) (fun hf v => ∃ I', hf = (sh, I', J, R) ∧ v = none ∧ (FtS I' m (c + if fitS N F ts && fitD N F td then 1 else 0) (if fitS N F ts && fitD N F td then o.or (some (endL acts n so)) else o) ∧ Sm (Fft m) I I')) by
    obtain ⟨I', q1, q2⟩ := rW_ex hh
    exact ⟨I', e_X9_fits q1, q2⟩
  -- what does not fit leaves all as it is
  have no : (fitS N F ts && fitD N F td) = false → ∃ I', ((sh, I, J, R) : rHeap) = (sh, I', J, R) ∧ (none : Option Value) = none ∧ (FtS I' m (c + if fitS N F ts && fitD N F td then 1 else 0) (if fitS N F ts && fitD N F td then o.or (some (endL acts n so)) else o) ∧ Sm (Fft m) I I') := by
    intro hz
    rw [hz]
    exact ⟨I, rfl, rfl, hS, Sm.rf⟩
  -- what fits is counted, and the first told
  have yes : (fitS N F ts && fitD N F td) = true → ∃ I', (up I m 60 (I m 60 + 1) m 61 = -1 → s_X9_fits_122 γ l m (nI n) (nI so) 0 (sh, up (up I m 60 (I m 60 + 1)) m 61 0, J, R) (fun hf v => ∃ I', hf = (sh, I', J, R) ∧ v = none ∧ (FtS I' m (c + 1) (o.or (some (endL acts n so))) ∧ Sm (Fft m) I I'))) ∧ (¬ up I m 60 (I m 60 + 1) m 61 = -1 → ((sh, up I m 60 (I m 60 + 1), J, R) : rHeap) = (sh, I', J, R) ∧ (FtS I' m (c + 1) (o.or (some (endL acts n so))) ∧ Sm (Fft m) I I')) := by
    intro hz
    have e61 : up I m 60 (I m 60 + 1) m 61 = I m 61 := by rw [up_at, if_neg (by omega)]
    refine ⟨up I m 60 (I m 60 + 1), fun y => ?_, fun y => ⟨rfl, ?_, Sm.rf.up (Or.inl ⟨rfl, Or.inl rfl⟩)⟩⟩
    · rw [e61] at y
      have ho : o = none := by
        cases o with
        | none => rfl
        | some X =>
          have := hS.2.1
          rw [y] at this
          exact absurd this.symm (nI_ne1 (by have := hS.2.2.1; omega))
      subst ho
      rw [hS.1, nI_1]
      have loop : ∀ j i I1, i + j = acts.length → I1 m 60 = nI (c + 1) → I1 m 61 = nI i → LsA I1 (m + 41) (acts.take i) → Sm (Fft m) I I1 → s_X9_fits_122 γ l m (nI n) (nI so) (nI i) (sh, I1, J, R) (fun hf v => ∃ I', hf = (sh, I', J, R) ∧ v = none ∧ (FtS I' m (c + 1) (some (endL acts n so)) ∧ Sm (Fft m) I I')) := by
        intro j
        induction j with
        | zero =>
          intro i I1 hi x60 x61 xL xS
          have ei : i = acts.length := by omega
          subst ei
          rw [List.take_length] at xL
          refine w_X9_fits_122 hA ⟨fun _ => ?_, fun w => absurd ?_ w⟩
          · have n0 : ∀ q : Nat, q < 2 ^ 31 → (nI q ≤ 0 ↔ q = 0) := fun q hq => by
              rw [show (0 : Int32) = nI 0 from rfl, nI_leI hq (by decide)]
              omega
            rw [n0 n hn, n0 so hso]
            -- after the slit
            refine ⟨fun w1 => ⟨fun w2 => ⟨I1, rfl, rfl, ⟨x60, ?_⟩, xS⟩, fun w2 => ⟨_, ct_tells (X := acts) hA x61 (by omega), _, rfl, rfl, ⟨?_, ?_⟩, (xS.up (Or.inr rfl)).up (Or.inl ⟨rfl, Or.inr rfl⟩)⟩⟩, fun w1 => ⟨_, ct_tells (X := acts) hA x61 (by omega), fun w2 => ⟨_, rfl, rfl, ⟨?_, ?_⟩, (xS.up (Or.inr rfl)).up (Or.inl ⟨rfl, Or.inr rfl⟩)⟩, fun w2 => ⟨_, ct_tells (X := acts ++ [n]) hA ?_ ?_, _, rfl, rfl, ⟨?_, ?_⟩, (((xS.up (Or.inr rfl)).up (Or.inl ⟨rfl, Or.inr rfl⟩)).up (Or.inr rfl)).up (Or.inl ⟨rfl, Or.inr rfl⟩)⟩⟩⟩
            · have e : endL acts n so = acts := by unfold endL; simp [w1, w2]
              rw [e]
              exact ⟨x61, by omega, xL⟩
            · rw [up_at, if_neg (by omega), up_at, if_neg (by omega)]; exact x60
            · have e : endL acts n so = acts ++ [so] := by unfold endL; simp [w1, w2]
              rw [e]
              refine ⟨?_, by simp; omega, LsA.push xL (by omega) rfl⟩
              rw [up_at, if_pos ⟨rfl, rfl⟩, List.length_append]; rfl
            · rw [up_at, if_neg (by omega), up_at, if_neg (by omega)]; exact x60
            · have e : endL acts n so = acts ++ [n] := by unfold endL; simp [w1, w2]
              rw [e]
              refine ⟨?_, by simp; omega, LsA.push xL (by omega) rfl⟩
              rw [up_at, if_pos ⟨rfl, rfl⟩, List.length_append]; rfl
            · rw [up_at, if_pos ⟨rfl, rfl⟩, List.length_append]; rfl
            · simp; omega
            · rw [up_at, if_neg (by omega), up_at, if_neg (by omega), up_at, if_neg (by omega), up_at, if_neg (by omega)]; exact x60
            · have e : endL acts n so = acts ++ [n] ++ [so] := by unfold endL; simp [w1, w2]
              rw [e]
              refine ⟨?_, by simp; omega, LsA.push (LsA.push xL (by omega) rfl) (by omega) rfl⟩
              rw [up_at, if_pos ⟨rfl, rfl⟩]; simp
          · rw [xS _ _ (by unfold Fft; omega), h68]
            exact nI_le (Nat.le_refl _) (by omega)
        | succ j ih =>
          intro i I1 hi x60 x61 xL xS
          have hi' : i < acts.length := by omega
          have en : I1 (m + 44) i = nI (acts.getD i 0) := by rw [xS _ _ (by unfold Fft; omega)]; exact hac i hi'
          have etl : (acts.take i).length = i := by rw [List.length_take]; omega
          refine w_X9_fits_122 hA ⟨fun w => absurd w ?_, fun _ => ?_⟩
          · rw [xS _ _ (by unfold Fft; omega), h68]
            exact nI_ge hi' (by omega)
          · rw [nI_clamp (by omega), en, nI_1]
            have mt := ct_tells (γ := γ) (l := l) (J := J) (I := I1) (n := acts.getD i 0) (X := acts.take i) hA (by rw [etl]; exact x61) (by rw [etl]; omega)
            rw [etl] at mt
            refine ⟨vp_in_nI (by omega) (by decide), _, mt, ih (i + 1) _ (by omega) ?_ ?_ ?_ ((xS.up (Or.inr rfl)).up (Or.inl ⟨rfl, Or.inr rfl⟩))⟩
            · rw [up_at, if_neg (by omega), up_at, if_neg (by omega)]; exact x60
            · rw [up_at, if_pos ⟨rfl, rfl⟩]
            · have := LsA.push (m := m) (n := acts.getD i 0) (w := nI (i + 1)) xL (by omega) rfl
              rw [etl] at this
              rw [List.take_succ_eq_append_getElem hi']
              rw [gD_el hi'] at this ⊢
              exact this
      exact loop acts.length 0 _ (by omega) (by rw [up_at, if_neg (by omega), up_at, if_pos ⟨rfl, rfl⟩]) (by rw [up_at, if_pos ⟨rfl, rfl⟩]; rfl) (fun i hi => absurd hi (by simp)) ((Sm.rf.up (Or.inl ⟨rfl, Or.inl rfl⟩)).up (Or.inl ⟨rfl, Or.inr rfl⟩))
    · rw [e61] at y
      cases o with
      | none => exact absurd hS.2 y
      | some X =>
        refine ⟨by rw [up_at, if_pos ⟨rfl, rfl⟩, hS.1, nI_1], ?_⟩
        show up I m 60 (I m 60 + 1) m 61 = nI X.length ∧ X.length ≤ 5 ∧ LsA _ (m + 41) X
        exact ⟨by rw [e61]; exact hS.2.1, hS.2.2.1, fun i hi => by rw [up_at, if_neg (by omega)]; exact hS.2.2.2 i hi⟩
  -- the dirt
  have l49 : ∀ j i, i + j = 2 * N → fitS N F ts = true → (∀ k, k < i → fKd F k = true → fVd F k = td.testBit k) → s_X9_fits_49 γ l m (nI n) (nI so) (nI td) (nI i) (sh, I, J, R) (fun hf v => ∃ I', hf = (sh, I', J, R) ∧ v = none ∧ (FtS I' m (c + if fitS N F ts && fitD N F td then 1 else 0) (if fitS N F ts && fitD N F td then o.or (some (endL acts n so)) else o) ∧ Sm (Fft m) I I')) := by
    intro j
    induction j with
    | zero =>
      intro i hi hs hk
      have hd : fitD N F td = true := fitD_iff.mpr (fun k hk1 => hk k (by omega))
      have hb : (fitS N F ts && fitD N F td) = true := by rw [hs, hd]; rfl
      obtain ⟨I', y1, y2⟩ := yes hb
      have e2 : (2 : Int32) * nI N = nI (2 * N) := by rw [show (2 : Int32) = nI 2 from rfl, pk_mul]
      refine w_X9_fits_49 hA ⟨fun _ => ⟨fun z => ?_, fun z => ?_⟩, fun z => absurd ?_ z⟩
      · rw [hb]
        exact y1 z
      · rw [hb]
        obtain ⟨q1, q2⟩ := y2 z
        exact ⟨I', q1, rfl, q2⟩
      · rw [h39, e2]; exact nI_le (by omega) (by omega)
    | succ j ih =>
      intro i hi hs hk
      have e2 : (2 : Int32) * nI N = nI (2 * N) := by rw [show (2 : Int32) = nI 2 from rfl, pk_mul]
      refine w_X9_fits_49 hA ⟨fun z => absurd z (by rw [h39, e2]; exact nI_ge (by omega) (by omega)), fun _ => ?_⟩
      have ef := hM.2.2 i (by omega)
      rw [nI_clamp (by omega), nI_1]
      have hin : vp_in (nI i) 16 := vp_in_nI (by omega) (by decide)
      refine ⟨hin, fun z => ?_, fun z => ⟨hin, ?_⟩⟩
      · have hkn : fKd F i = false := by
          cases hz : fKd F i with
          | false => rfl
          | true => rw [ef, hz] at z; revert z; cases fVd F i <;> decide
        exact ih (i + 1) (by omega) hs (fun k hk1 hk2 => by
          by_cases e : k = i
          · subst e; rw [hkn] at hk2; exact absurd hk2 (by decide)
          · exact hk k (by omega) hk2)
      · have hkn : fKd F i = true := by
          cases hz : fKd F i with
          | true => rfl
          | false => rw [ef, hz] at z; exact absurd rfl z
        rw [ef, hkn, bt_bit (by omega) htd]
        show (nz (fVd F i) = nz (td.testBit i) → _) ∧ (¬ nz (fVd F i) = nz (td.testBit i) → _)
        rw [nz_eq]
        refine ⟨fun y => ih (i + 1) (by omega) hs (fun k hk1 hk2 => ?_), fun y => no ?_⟩
        · by_cases e : k = i
          · subst e; exact y
          · exact hk k (by omega) hk2
        · have : fitD N F td = false := by
            cases hz : fitD N F td with
            | false => rfl
            | true => exact absurd (fitD_iff.mp hz i (by omega) hkn) y
          rw [this, Bool.and_false]
  -- the slits
  have l3 : ∀ j i, i + j = N → (∀ k, k < i → fKs F k = true → fVs F k = ts.testBit k) → s_X9_fits_3 γ l m (nI n) (nI ts) (nI so) (nI td) (nI i) (sh, I, J, R) (fun hf v => ∃ I', hf = (sh, I', J, R) ∧ v = none ∧ (FtS I' m (c + if fitS N F ts && fitD N F td then 1 else 0) (if fitS N F ts && fitD N F td then o.or (some (endL acts n so)) else o) ∧ Sm (Fft m) I I')) := by
    intro j
    induction j with
    | zero =>
      intro i hi hk
      refine w_X9_fits_3 hA ⟨fun _ => l49 (2 * N) 0 (by omega) (fitS_iff.mpr (fun k hk1 => hk k (by omega))) (fun k hk1 => absurd hk1 (by omega)), fun z => absurd ?_ z⟩
      rw [h39]; exact nI_le (by omega) (by omega)
    | succ j ih =>
      intro i hi hk
      refine w_X9_fits_3 hA ⟨fun z => absurd z (by rw [h39]; exact nI_ge (by omega) (by omega)), fun _ => ?_⟩
      have ef := hM.2.1 i (by omega)
      rw [nI_clamp (by omega), nI_1]
      have hin : vp_in (nI i) 8 := vp_in_nI (by omega) (by decide)
      refine ⟨hin, fun z => ?_, fun z => ⟨hin, ?_⟩⟩
      · have hkn : fKs F i = false := by
          cases hz : fKs F i with
          | false => rfl
          | true => rw [ef, hz] at z; revert z; cases fVs F i <;> decide
        exact ih (i + 1) (by omega) (fun k hk1 hk2 => by
          by_cases e : k = i
          · subst e; rw [hkn] at hk2; exact absurd hk2 (by decide)
          · exact hk k (by omega) hk2)
      · have hkn : fKs F i = true := by
          cases hz : fKs F i with
          | true => rfl
          | false => rw [ef, hz] at z; exact absurd rfl z
        rw [ef, hkn, bt_bit (by omega) hts]
        show (nz (fVs F i) = nz (ts.testBit i) → _) ∧ (¬ nz (fVs F i) = nz (ts.testBit i) → _)
        rw [nz_eq]
        refine ⟨fun y => ih (i + 1) (by omega) (fun k hk1 hk2 => ?_), fun y => no ?_⟩
        · by_cases e : k = i
          · subst e; exact y
          · exact hk k (by omega) hk2
        · have : fitS N F ts = false := by
            cases hz : fitS N F ts with
            | false => rfl
            | true => exact absurd (fitS_iff.mp hz i (by omega) hkn) y
          rw [this, Bool.false_and]
  exact w_X9_fits_0 hA (l3 N 0 (by omega) (fun k hk => absurd hk (by omega)))
end FIT
