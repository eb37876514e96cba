/-! ===== the text cut into tokens: the model ===== -/
def TxM (I : Nat → Nat → Int32) (m n : Nat) (f : Nat → Int32) : Prop := n ≤ 2000 ∧ I m 4 = nI n ∧ ∀ j, j < n → I (m + 2) j = f j
def KeysM (J : Nat → Nat → Int64) (m : Nat) : Prop := ∀ k, k < 14 → J (m + 7) k = lN (keyN k)
/-- where the scan of token j begins; where the token does; what it is -/
def psA (f : Nat → Int32) (n : Nat) : Nat → Nat
  | 0 => 0
  | j + 1 => (tkA f n (tkS f n (psA f n j))).2.2
def stA (f : Nat → Int32) (n j : Nat) : Nat := tkS f n (psA f n j)
def tokA (f : Nat → Int32) (n j : Nat) : Nat × Nat × Nat := tkA f n (stA f n j)
def TkM (I : Nat → Nat → Int32) (m : Nat) (f : Nat → Int32) (n j : Nat) : Prop := ∃ kd, I (m + 3) j = nI kd ∧ KR kd (tokA f n j).1 (tokA f n j).2.1 ∧ I (m + 4) j = nI (stA f n j) ∧ ((tokA f n j).1 = 2 → I (m + 5) j = nI (tokA f n j).2.1)
section MCUT
variable {γ : rG} {l : Launch} {sh : Nat × (Nat → Nat) × (Nat → Nat)} {I : Nat → Nat → Int32} {J : Nat → Nat → Int64} {R : Nat → Nat → Option Nat} {m n : Nat} {f : Nat → Int32}
theorem ct_byteAt {i : Nat} (hA : At9 sh R m) (hT : TxM I m n f) (hi : i < 2 ^ 31) : rMet γ l m_X9_byteAt [.ref m, .int (nI i)] (sh, I, J, R) (sh, I, J, R) (some (.int (ubA f n i))) := by
  have hn := hT.1
  refine e_X9_byteAt (rW_pure (w_X9_byteAt_0 hA ⟨fun q => ⟨rfl, ?_⟩, fun q => ?_⟩))
  · rw [hT.2.1, nI_leI (by omega) hi] at q
    unfold ubA; rw [if_neg (by omega)]
  · rw [hT.2.1, nI_leI (by omega) hi] at q
    refine ⟨vp_in_nI (by omega) (by decide), rfl, ?_⟩
    rw [nI_clamp hi, hT.2.2 i (by omega)]
    unfold ubA; rw [if_pos (by omega)]
theorem ct_isLetterM (x : Int32) : rMet γ l m_X9_isLetter [.int x] (sh, I, J, R) (sh, I, J, R) (some (.int (nz (ltB x)))) := by
  refine e_X9_isLetter (rW_pure (w_X9_isLetter_0 ⟨fun h => ⟨rfl, ?_⟩, fun h => ⟨fun h2 => ⟨rfl, ?_⟩, fun h2 => ⟨rfl, ?_⟩⟩⟩)) <;> simp [ltB, nz, h, *]
theorem ct_isDigitM (x : Int32) : rMet γ l m_X9_isDigit [.int x] (sh, I, J, R) (sh, I, J, R) (some (.int (nz (dgB x)))) := by
  refine e_X9_isDigit (rW_pure (w_X9_isDigit_0 ⟨fun h => ⟨rfl, ?_⟩, fun h => ⟨fun h2 => ⟨rfl, ?_⟩, fun h2 => ⟨rfl, ?_⟩⟩⟩)) <;> simp [dgB, nz, h, *]
theorem ct_moreL {x : Int32} (k : Nat) (hx : ltB x = true) : rMet γ l m_X9_more [.long (lN k), .int x] (sh, I, J, R) (sh, I, J, R) (some (.long (lN (27 * k + ltv x)))) := by
  obtain ⟨h1, h2, h3⟩ := ltB_v hx
  refine e_X9_more (rW_pure (w_X9_more_0 ⟨fun z => ?_, fun _ => ⟨rfl, ?_⟩⟩))
  · rw [z] at hx; exact absurd hx (by decide)
  · have e : x - 97 + 1 = nI (ltv x) := by
      have := nI_sub' 97 (ltv x - 1)
      rw [show 97 + (ltv x - 1) = 96 + ltv x by omega, ← h1] at this
      rw [show (97 : Int32) = nI 97 from rfl, this, nI_1]
      congr 1; omega
    rw [e, nI_l (by omega), show (27 : Int64) = lN 27 from rfl, lN_mul, lN_add]
theorem ct_tokenIs {t : Nat} (hA : At9 sh R m) (ht : t < 403) (h10 : I m 10 = nI t) (kd st v : Int32) (w : Int64) : ∃ I' J', rMet γ l m_X9_tokenIs [.ref m, .int kd, .int st, .int v, .long w] (sh, I, J, R) (sh, I', J', R) none ∧ (I' (m + 3) t = kd ∧ I' (m + 4) t = st ∧ I' (m + 5) t = v ∧ I' m 10 = nI (t + 1) ∧ Sm (fun b j => ((b = m + 3 ∨ b = m + 4 ∨ b = m + 5) ∧ j = t) ∨ (b = m ∧ j = 10)) I I' ∧ SmJ (m + 6) J J') := by
  have vt : vp_in (nI t) 403 := vp_in_nI ht (by decide)
  have e1 : up I (m + 3) t kd m 10 = nI t := by rw [up_at, if_neg (by omega)]; exact h10
  have e2 : up (up I (m + 3) t kd) (m + 4) t st m 10 = nI t := by rw [up_at, if_neg (by omega)]; exact e1
  have e3 : up (up (up I (m + 3) t kd) (m + 4) t st) (m + 5) t v m 10 = nI t := by rw [up_at, if_neg (by omega)]; exact e2
  obtain ⟨I', J', q1, q2⟩ := rW_exJ (γ := γ) (l := l) (sh := sh) (R := R) (r := none) (F := fun I' J' => I' (m + 3) t = kd ∧ I' (m + 4) t = st ∧ I' (m + 5) t = v ∧ I' m 10 = nI (t + 1) ∧ Sm (fun b j => ((b = m + 3 ∨ b = m + 4 ∨ b = m + 5) ∧ j = t) ∨ (b = m ∧ j = 10)) I I' ∧ SmJ (m + 6) J J') (w_X9_tokenIs_0 (I := I) (J := J) (x1 := kd) (x2 := st) (x3 := v) (x4 := w) hA (by
    rw [h10, nI_clamp (by omega), e1, nI_clamp (by omega), e2, nI_clamp (by omega), e3, nI_clamp (by omega), nI_1]
    refine ⟨vt, vt, vt, vt, _, _, rfl, rfl, ?_, ?_, ?_, ?_, ((((Sm.rf.up (by omega)).up (by omega)).up (by omega)).up (by omega)), SmJ.rf.up⟩
    · rw [up_at, if_neg (by omega), up_at, if_neg (by omega), up_at, if_neg (by omega), up_at, if_pos ⟨rfl, rfl⟩]
    · rw [up_at, if_neg (by omega), up_at, if_neg (by omega), up_at, if_pos ⟨rfl, rfl⟩]
    · rw [up_at, if_neg (by omega), up_at, if_pos ⟨rfl, rfl⟩]
    · rw [up_at, if_pos ⟨rfl, rfl⟩]))
  exact ⟨I', J', e_X9_tokenIs q1, q2⟩
/-- tokens 0 .. t-1 are cut -/
def Fct (m : Nat) : Nat → Nat → Prop := fun b j => b = m + 3 ∨ b = m + 4 ∨ b = m + 5 ∨ (b = m ∧ j = 10)
def CutI (I0 : Nat → Nat → Int32) (J0 : Nat → Nat → Int64) (m : Nat) (f : Nat → Int32) (n t : Nat) (I1 : Nat → Nat → Int32) (J1 : Nat → Nat → Int64) : Prop := I1 m 10 = nI t ∧ (∀ j, j < t → TkM I1 m f n j) ∧ Sm (Fct m) I0 I1 ∧ SmJ (m + 6) J0 J1
theorem CutI.push {I0 I1 : Nat → Nat → Int32} {J0 J1 : Nat → Nat → Int64} {t kd : Nat} {v : Int32} {w : Int64} (hA : At9 sh R m) (h : CutI I0 J0 m f n t I1 J1) (ht : t ≤ 400) (hk : KR kd (tokA f n t).1 (tokA f n t).2.1) (hv : (tokA f n t).1 = 2 → v = nI (tokA f n t).2.1) : ∃ I2 J2, rMet γ l m_X9_tokenIs [.ref m, .int (nI kd), .int (nI (stA f n t)), .int v, .long w] (sh, I1, J1, R) (sh, I2, J2, R) none ∧ CutI I0 J0 m f n (t + 1) I2 J2 := by
  obtain ⟨I2, J2, d0, d1, d2, d3, d4, d5, d6⟩ := ct_tokenIs (γ := γ) (l := l) (J := J1) hA (show t < 403 by omega) h.1 (nI kd) (nI (stA f n t)) v w
  refine ⟨I2, J2, d0, d4, fun j hj => ?_, h.2.2.1.tr (d5.mono (fun b j q => by unfold Fct; omega)), h.2.2.2.tr d6⟩
  by_cases e : j = t
  · subst e
    exact ⟨kd, d1, hk, d2, fun q => d3.trans (hv q)⟩
  · obtain ⟨k, p1, p2, p3, p4⟩ := h.2.1 j (by omega)
    exact ⟨k, (d5 _ _ (by omega)).trans p1, p2, (d5 _ _ (by omega)).trans p3, fun q => (d5 _ _ (by omega)).trans (p4 q)⟩
theorem CutI.tx {I1 : Nat → Nat → Int32} {J1 : Nat → Nat → Int64} {t : Nat} (h : CutI I J m f n t I1 J1) (hT : TxM I m n f) : TxM I1 m n f :=
  ⟨hT.1, (h.2.2.1 _ _ (by unfold Fct; omega)).trans hT.2.1, fun j hj => (h.2.2.1 _ _ (by unfold Fct; omega)).trans (hT.2.2 j hj)⟩
theorem CutI.ky {I1 : Nat → Nat → Int32} {J1 : Nat → Nat → Int64} {t : Nat} (h : CutI I J m f n t I1 J1) (hK : KeysM J m) : KeysM J1 m := fun k hk => (h.2.2.2 _ _ (by omega)).trans (hK k hk)
/-! signs -/
def twA (c : Int32) (b : Bool) : Nat := if b then (if c = 61 then 11 else if c = 33 then 12 else if c = 60 then 14 else 0) else 0
def kdA (c : Int32) (b : Bool) : Nat := if 0 < twA c b then twA c b else if c = 59 then 4 else if c = 40 then 6 else if c = 41 then 7 else if c = 43 then 8 else if c = 45 then 9 else if c = 42 then 10 else if c = 60 then 13 else 3
theorem kdA_ok (c : Int32) (b : Bool) : KR (kdA c b) (sgS c b) 0 ∧ sgL (sgS c b) = (if 0 < twA c b then 2 else 1) := by
  by_cases h1 : c = 59
  · subst h1; cases b <;> exact ⟨by unfold KR; decide, by decide⟩
  by_cases h2 : c = 43
  · subst h2; cases b <;> exact ⟨by unfold KR; decide, by decide⟩
  by_cases h3 : c = 45
  · subst h3; cases b <;> exact ⟨by unfold KR; decide, by decide⟩
  by_cases h4 : c = 42
  · subst h4; cases b <;> exact ⟨by unfold KR; decide, by decide⟩
  by_cases h5 : c = 40
  · subst h5; cases b <;> exact ⟨by unfold KR; decide, by decide⟩
  by_cases h6 : c = 41
  · subst h6; cases b <;> exact ⟨by unfold KR; decide, by decide⟩
  by_cases h7 : c = 60
  · subst h7; cases b <;> exact ⟨by unfold KR; decide, by decide⟩
  by_cases h8 : c = 61
  · subst h8; cases b <;> exact ⟨by unfold KR; decide, by decide⟩
  by_cases h9 : c = 33
  · subst h9; cases b <;> exact ⟨by unfold KR; decide, by decide⟩
  have e1 : sgS c b = 1 := by simp [sgS, *]
  have e2 : twA c b = 0 := by simp [twA, *]
  have e3 : kdA c b = 3 := by simp [kdA, *]
  rw [e1, e2, e3]
  exact ⟨Or.inl ⟨rfl, Or.inr rfl⟩, rfl⟩
theorem twA_lt (c : Int32) (b : Bool) : twA c b < 15 := by
  unfold twA
  repeat' split
  all_goals decide
theorem ct_sign {I1 : Nat → Nat → Int32} {J1 : Nat → Nat → Int64} {t : Nat} {c d : Int32} {b : Bool} (hA : At9 sh R m) (h : CutI I J m f n t I1 J1) (ht : t ≤ 400) (hd : decide (d = 61) = b) (ek : (tokA f n t).1 = sgS c b ∧ (tokA f n t).2.1 = 0) : ∃ I2 J2, rMet γ l m_X9_sign [.ref m, .int (nI (stA f n t)), .int c, .int d] (sh, I1, J1, R) (sh, I2, J2, R) (some (.int (nI (sgL (sgS c b))))) ∧ CutI I J m f n (t + 1) I2 J2 := by
  have hk := kdA_ok c b
  have ht15 := twA_lt c b
  have s148 : s_X9_sign_148 γ l m (nI (stA f n t)) (nI (twA c b)) (nI (kdA c b)) (sh, I1, J1, R) (fun hf v => ∃ I' J', hf = (sh, I', J', R) ∧ v = some (.int (nI (sgL (sgS c b)))) ∧ CutI I J m f n (t + 1) I' J') := by
    obtain ⟨I2, J2, d1, d2⟩ := h.push (γ := γ) (l := l) (v := 0) (w := 0) hA ht (kd := kdA c b) (by rw [ek.1, ek.2]; exact hk.1) (fun _ => by rw [ek.2]; rfl)
    refine w_X9_sign_148 hA ⟨I2, J2, d1, fun q => ⟨I2, J2, rfl, ?_, d2⟩, fun q => ⟨I2, J2, rfl, ?_, d2⟩⟩
    · rw [show (0 : Int32) = nI 0 from rfl, nI_leI (by omega) (by decide)] at q
      rw [hk.2, if_neg (by omega)]; rfl
    · rw [show (0 : Int32) = nI 0 from rfl, nI_leI (by omega) (by decide)] at q
      rw [hk.2, if_pos (by omega)]; rfl
  have s44 : s_X9_sign_44 γ l m (nI (stA f n t)) c (nI (twA c b)) (sh, I1, J1, R) (fun hf v => ∃ I' J', hf = (sh, I', J', R) ∧ v = some (.int (nI (sgL (sgS c b)))) ∧ CutI I J m f n (t + 1) I' J') := by
    refine w_X9_sign_44 hA ⟨fun q => ?_, fun q => ?_⟩
    · rw [show (0 : Int32) = nI 0 from rfl, nI_leI (by omega) (by decide)] at q
      have e0 : kdA c b = if c = 59 then 4 else if c = 40 then 6 else if c = 41 then 7 else if c = 43 then 8 else if c = 45 then 9 else if c = 42 then 10 else if c = 60 then 13 else 3 := by
        show (if 0 < twA c b then twA c b else _) = _
        rw [if_neg (by omega)]
      refine ⟨fun z => ?_, fun z1 => ⟨fun z => ?_, fun z2 => ⟨fun z => ?_, fun z3 => ⟨fun z => ?_, fun z4 => ⟨fun z => ?_, fun z5 => ⟨fun z => ?_, fun z6 => ⟨fun z => ?_, fun z7 => ?_⟩⟩⟩⟩⟩⟩⟩
      · rw [if_pos z] at e0; rw [e0] at s148; exact s148
      · rw [if_neg z1, if_pos z] at e0; rw [e0] at s148; exact s148
      · rw [if_neg z1, if_neg z2, if_pos z] at e0; rw [e0] at s148; exact s148
      · rw [if_neg z1, if_neg z2, if_neg z3, if_pos z] at e0; rw [e0] at s148; exact s148
      · rw [if_neg z1, if_neg z2, if_neg z3, if_neg z4, if_pos z] at e0; rw [e0] at s148; exact s148
      · rw [if_neg z1, if_neg z2, if_neg z3, if_neg z4, if_neg z5, if_pos z] at e0; rw [e0] at s148; exact s148
      · rw [if_neg z1, if_neg z2, if_neg z3, if_neg z4, if_neg z5, if_neg z6, if_pos z] at e0; rw [e0] at s148; exact s148
      · rw [if_neg z1, if_neg z2, if_neg z3, if_neg z4, if_neg z5, if_neg z6, if_neg z7] at e0; rw [e0] at s148; exact s148
    · rw [show (0 : Int32) = nI 0 from rfl, nI_leI (by omega) (by decide)] at q
      have e0 : kdA c b = twA c b := by
        show (if 0 < twA c b then twA c b else _) = _
        rw [if_pos (by omega)]
      rw [e0] at s148
      exact s148
  obtain ⟨I', J', q1, q2⟩ := rW_exJ (γ := γ) (l := l) (sh := sh) (R := R) (r := some (.int (nI (sgL (sgS c b))))) (F := fun I' J' => CutI I J m f n (t + 1) I' J') (show s_X9_sign_0 γ l m (nI (stA f n t)) c d (sh, I1, J1, R) _ from by
    refine w_X9_sign_0 hA ⟨fun q => ?_, fun q => ?_⟩
    · have hb : b = true := by rw [← hd]; exact decide_eq_true q
      subst hb
      have e0 : twA c true = if c = 61 then 11 else if c = 33 then 12 else if c = 60 then 14 else 0 := rfl
      refine ⟨fun z => ?_, fun z1 => ⟨fun z => ?_, fun z2 => ⟨fun z => ?_, fun z3 => ?_⟩⟩⟩
      · rw [if_pos z] at e0; rw [e0] at s44; exact s44
      · rw [if_neg z1, if_pos z] at e0; rw [e0] at s44; exact s44
      · rw [if_neg z1, if_neg z2, if_pos z] at e0; rw [e0] at s44; exact s44
      · rw [if_neg z1, if_neg z2, if_neg z3] at e0; rw [e0] at s44; exact s44
    · have hb : b = false := by rw [← hd]; exact decide_eq_false q
      subst hb
      have e0 : twA c false = 0 := rfl
      rw [e0] at s44; exact s44)
  exact ⟨I', J', e_X9_sign q1, q2⟩
end MCUT
