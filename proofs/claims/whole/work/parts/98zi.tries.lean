/-! ===== the model: tries ===== -/
def SqB (N : Nat) : Nat → List En
  | 0 => []
  | d + 1 => SqB N d ++ Sq N d
theorem Eqv.app {S S' T T' : List En} (h : Eqv S T) (h' : Eqv S' T') : Eqv (S ++ S') (T ++ T') := ⟨fun g => by rw [wsum_app, wsum_app, h.1, h'.1], fun p => by rw [fst1_app, fst1_app, h.2, h'.2]⟩
theorem PLb_SqB (N : Nat) : ∀ d, Eqv (PLb N d) (SqB N d) := by
  intro d
  induction d with
  | zero => exact Eqv.rf
  | succ d ih => exact ih.app (Lv_Sq N d)
theorem fst1_ex {p : Nat × Nat → Bool} : ∀ {L : List En}, (fst1 p L).isSome = true → ∃ x, x ∈ L ∧ p x.1 = true := by
  intro L
  induction L with
  | nil => intro h; exact absurd h (by simp [fst1])
  | cons y L ih =>
    intro h
    simp only [fst1] at h
    by_cases hy : p y.1 = true
    · exact ⟨y, by simp, hy⟩
    · rw [if_neg hy] at h
      obtain ⟨x, x1, x2⟩ := ih h
      exact ⟨x, by simp [x1], x2⟩
theorem Eqv.ex {S T : List En} (h : Eqv S T) {p : Nat × Nat → Bool} (hx : ∃ x, x ∈ S ∧ p x.1 = true) : ∃ x, x ∈ T ∧ p x.1 = true := by
  obtain ⟨x, x1, x2⟩ := hx
  refine fst1_ex ?_
  rw [← h.2]
  exact fst1_some x1 x2
theorem Eqv.two {S T : List En} (h : Eqv S T) {N : Nat} {F : Fnd} (h2 : Two N F S) : Two N F T := by
  obtain ⟨x, x1, y, y1, hxy⟩ := h2
  obtain ⟨x', a1, a2⟩ := h.ex (p := fun k => decide ((k.1 ||| y.1.1) &&& ckN N F = crF N F)) ⟨x, x1, decide_eq_true hxy⟩
  have a2 := of_decide_eq_true a2
  obtain ⟨y', b1, b2⟩ := h.ex (p := fun k => decide ((x'.1.1 ||| k.1) &&& ckN N F = crF N F)) ⟨y, y1, decide_eq_true a2⟩
  exact ⟨x', a1, y', b1, of_decide_eq_true b2⟩
theorem Eqv.sy {S T : List En} (h : Eqv S T) : Eqv T S := ⟨fun g => (h.1 g).symm, fun p => (h.2 p).symm⟩
theorem two_all (N : Nat) (F : Fnd) : Two N F (PLb N 4) ↔ Two N F (SqB N 4) := ⟨fun h => (PLb_SqB N 4).two h, fun h => (PLb_SqB N 4).sy.two h⟩
/-! masks, two bits a crease -/
def ckP (F : Fnd) (i : Nat) : Nat := mkN (fun j => fKc F (j / 2)) (2 * i)
def crP (F : Fnd) (i : Nat) : Nat := mkN (fun j => fKc F (j / 2) && (fVc F (j / 2)).testBit (j % 2)) (2 * i)
theorem ckP_t {F : Fnd} {i : Nat} (h : fKc F i = true) : ckP F (i + 1) = ckP F i ||| 3 * 2 ^ (2 * i) := by
  apply Nat.eq_of_testBit_eq
  intro t
  unfold ckP
  rw [Nat.testBit_or, mkN_bit, mkN_bit, tb3]
  by_cases h1 : t / 2 = i
  · have e1 : t < 2 * (i + 1) := by omega
    have e2 : ¬ t < 2 * i := by omega
    simp [e1, e2, h1, h]
  · by_cases h2 : t < 2 * i
    · have e1 : t < 2 * (i + 1) := by omega
      simp [e1, h2, h1]
    · have e1 : ¬ t < 2 * (i + 1) := by omega
      simp [e1, h2, h1]
theorem ckP_f {F : Fnd} {i : Nat} (h : fKc F i = false) : ckP F (i + 1) = ckP F i ∧ crP F (i + 1) = crP F i := by
  constructor
  · apply Nat.eq_of_testBit_eq
    intro t
    unfold ckP
    rw [mkN_bit, mkN_bit]
    by_cases h1 : t / 2 = i
    · simp [h1, h]
    · have : (t < 2 * (i + 1)) ↔ (t < 2 * i) := by omega
      simp [this]
  · apply Nat.eq_of_testBit_eq
    intro t
    unfold crP
    rw [mkN_bit, mkN_bit]
    by_cases h1 : t / 2 = i
    · simp [h1, h]
    · have : (t < 2 * (i + 1)) ↔ (t < 2 * i) := by omega
      simp [this]
theorem crP_t {F : Fnd} {i : Nat} (h : fKc F i = true) (h4 : fVc F i < 4) : crP F (i + 1) = crP F i ||| fVc F i * 2 ^ (2 * i) := by
  apply Nat.eq_of_testBit_eq
  intro t
  unfold crP
  rw [Nat.testBit_or, mkN_bit, mkN_bit, Nat.testBit_mul_two_pow]
  by_cases h1 : t / 2 = i
  · have e1 : t < 2 * (i + 1) := by omega
    have e2 : ¬ t < 2 * i := by omega
    have e3 : 2 * i ≤ t := by omega
    have e4 : t - 2 * i = t % 2 := by omega
    simp [e1, e2, e3, e4, h1, h]
  · by_cases h2 : t < 2 * i
    · have e1 : t < 2 * (i + 1) := by omega
      have e3 : ¬ 2 * i ≤ t := by omega
      simp [e1, h2, e3]
    · have e1 : ¬ t < 2 * (i + 1) := by omega
      have e3 : 2 * i ≤ t := by omega
      have e4 : (fVc F i).testBit (t - 2 * i) = false := bt_ge (n := 2) h4 _ (by omega)
      simp [e1, h2, e4]
theorem ckP_14 {F : Fnd} {i : Nat} (h : i ≤ 7) : ckP F i < 2 ^ 14 ∧ crP F i < 2 ^ 14 := by
  have : (2 : Nat) ^ (2 * i) ≤ 2 ^ 14 := Nat.pow_le_pow_right (by decide) (by omega)
  exact ⟨Nat.lt_of_lt_of_le (mkN_lt _ _) this, Nat.lt_of_lt_of_le (mkN_lt _ _) this⟩
def Ftri (m : Nat) : Nat → Nat → Prop := fun b j => Fgo m b j ∨ (b = m ∧ (j = 59 ∨ j = 64 ∨ j = 65))
section TRI
variable {γ : rG} {l : Launch} {sh : Nat × (Nat → Nat) × (Nat → Nat)} {I : Nat → Nat → Int32} {J : Nat → Nat → Int64} {R : Nat → Nat → Option Nat} {m N : Nat} {F : Fnd}
theorem ct_tries0 (hA : At9 sh R m) (h : 2 ≤ N ∧ N ≤ 8) (hV : V_fnd F) (hM : FdM I m N F) (h39 : I m 39 = nI N) (h59 : I m 59 = 0) : ∃ I', rMet γ l m_X9_tries [.ref m] (sh, I, J, R) (sh, I', J, R) none ∧ (ReM I' m N F (SqB N 4) ∧ (I' m 59 = 1 ∧ I' m 64 = nI (ckN N F) ∧ I' m 65 = nI (crF N F)) ∧ Sm (Ftri m) I I') := by
  -- all rows, depth by depth
  have l121 : ∀ j d I1, d + j = 4 → ReM I1 m N F (SqB N d) → (I1 m 59 = 1 ∧ I1 m 64 = nI (ckN N F) ∧ I1 m 65 = nI (crF N F)) → Sm (Ftri m) I I1 → s_X9_tries_121 γ l m (nI d) (sh, I1, J, R) (fun hf v => ∃ I', hf = (sh, I', J, R) ∧ v = none ∧ (ReM I' m N F (SqB N 4) ∧ (I' m 59 = 1 ∧ I' m 64 = nI (ckN N F) ∧ I' m 65 = nI (crF N F)) ∧ Sm (Ftri m) I I')) := by
    intro j
    induction j with
    | zero =>
      intro d I1 hd hR hf hS
      have ed : d = 4 := by omega
      subst ed
      exact w_X9_tries_121 hA ⟨fun _ => ⟨I1, rfl, rfl, hR, hf, hS⟩, fun z => absurd (by decide) z⟩
    | succ j ih =>
      intro d I1 hd hR hf hS
      obtain ⟨I2, q1, q2, q3⟩ := ct_goesThrough (γ := γ) (l := l) (J := J) (D := d) (F := F) (N := N) hA h (by omega) ((hS _ _ (by unfold Ftri Fgo Frw Fft; omega)).trans h39) (hM.loc (fun b j z => hS _ _ (by unfold Ftri Fgo Frw Fft; omega))) hf.2.1 hf.2.2 hR
      refine w_X9_tries_121 hA ⟨fun z => absurd z (nI_ge (b := 4) (by omega) (by decide)), fun _ => ⟨I2, q1, ?_⟩⟩
      rw [nI_1]
      exact ih (d + 1) I2 (by omega) q2 ⟨(q3 _ _ (by unfold Fgo Frw Fft; omega)).trans hf.1, (q3 _ _ (by unfold Fgo Frw Fft; omega)).trans hf.2.1, (q3 _ _ (by unfold Fgo Frw Fft; omega)).trans hf.2.2⟩ (hS.tr (q3.mono (fun b j z => Or.inl z)))
  -- no marks are left yet
  have l99 : ∀ j k I1, k + j = 16384 → (∀ y, y < k → I1 (m + 42) y = 0) → (I1 m 60 = 0 ∧ I1 m 61 = -1) → (I1 m 59 = 1 ∧ I1 m 64 = nI (ckN N F) ∧ I1 m 65 = nI (crF N F)) → Sm (Ftri m) I I1 → s_X9_tries_99 γ l m (nI k) (sh, I1, J, R) (fun hf v => ∃ I', hf = (sh, I', J, R) ∧ v = none ∧ (ReM I' m N F (SqB N 4) ∧ (I' m 59 = 1 ∧ I' m 64 = nI (ckN N F) ∧ I' m 65 = nI (crF N F)) ∧ Sm (Ftri m) I I')) := by
    intro j
    induction j with
    | zero =>
      intro k I1 hk hz h6 hf hS
      have ek : k = 16384 := by omega
      subst ek
      refine w_X9_tries_99 hA ⟨fun _ => l121 4 0 I1 (by omega) ⟨⟨h6.1, h6.2⟩, fun y hy => ?_⟩ hf hS, fun z => absurd (by decide) z⟩
      rw [hz y hy, bz_f (fun w => ?_)]
      obtain ⟨e, e1, _⟩ := w
      exact absurd e1 (by simp [SqB])
    | succ j ih =>
      intro k I1 hk hz h6 hf hS
      refine w_X9_tries_99 hA ⟨fun z => absurd z (nI_ge (b := 16384) (by omega) (by decide)), fun _ => ⟨vp_in_nI (by omega) (by decide), ?_⟩⟩
      rw [nI_clamp (by omega), nI_1]
      refine ih (k + 1) _ (by omega) (fun y hy => ?_) ⟨by rw [up_at, if_neg (by omega)]; exact h6.1, by rw [up_at, if_neg (by omega)]; exact h6.2⟩ ⟨by rw [up_at, if_neg (by omega)]; exact hf.1, by rw [up_at, if_neg (by omega)]; exact hf.2.1, by rw [up_at, if_neg (by omega)]; exact hf.2.2⟩ (hS.up (Or.inl (Or.inl (Or.inr rfl))))
      by_cases e : y = k
      · rw [up_at, if_pos ⟨rfl, e⟩]; decide
      · rw [up_at, if_neg (fun w => e w.2)]; exact hz y (by omega)
  have l35 : ∀ j i I1, i + 1 + j = N → (I1 m 64 = nI (ckP F i) ∧ I1 m 65 = nI (crP F i)) → (I1 m 60 = 0 ∧ I1 m 61 = -1) → I1 m 59 = 1 → Sm (Ftri m) I I1 → s_X9_tries_35 γ l m (nI i) (sh, I1, J, R) (fun hf v => ∃ I', hf = (sh, I', J, R) ∧ v = none ∧ (ReM I' m N F (SqB N 4) ∧ (I' m 59 = 1 ∧ I' m 64 = nI (ckN N F) ∧ I' m 65 = nI (crF N F)) ∧ Sm (Ftri m) I I')) := by
    intro j
    induction j with
    | zero =>
      intro i I1 hi h6 h60 h5 hS
      have ei : i = N - 1 := by omega
      subst ei
      refine w_X9_tries_35 hA ⟨fun _ => l99 16384 0 I1 (by omega) (fun y hy => absurd hy (by omega)) h60 ⟨h5, h6.1, h6.2⟩ hS, fun z => absurd ?_ z⟩
      rw [hS _ _ (by unfold Ftri Fgo Frw Fft; omega), h39, nI_1]
      exact nI_le (by omega) (by omega)
    | succ j ih =>
      intro i I1 hi h6 h60 h5 hS
      have e38 : I1 (m + 38) i = if fKc F i then nI (fVc F i) else -1 := by rw [hS _ _ (by unfold Ftri Fgo Frw Fft; omega)]; exact hM.1 i (by omega)
      have hb := ckP_14 (F := F) (i := i) (by omega)
      have hv := hV i
      refine w_X9_tries_35 hA ⟨fun z => absurd z ?_, fun _ => ⟨vp_in_nI (by omega) (by decide), ?_⟩⟩
      · rw [hS _ _ (by unfold Ftri Fgo Frw Fft; omega), h39, nI_1]
        exact nI_ge (by omega) (by omega)
      · have e38' : up I1 m 64 (I1 m 64 ||| (3 : Int32) <<< (((2 : Int32) * nI i) &&& 31)) (m + 38) i = I1 (m + 38) i := by rw [up_at, if_neg (by omega)]
        have e65' : up I1 m 64 (I1 m 64 ||| (3 : Int32) <<< (((2 : Int32) * nI i) &&& 31)) m 65 = I1 m 65 := by rw [up_at, if_neg (by omega)]
        rw [nI_clamp (by omega), nI_1, e38', e65', e38]
        refine ⟨fun z => ?_, fun z => ⟨vp_in_nI (by omega) (by decide), ?_⟩⟩
        · have hk : fKc F i = false := by
            cases hz : fKc F i with
            | false => rfl
            | true => rw [hz] at z; exact absurd z (nI_ne1 (by omega))
          obtain ⟨c1, c2⟩ := ckP_f hk
          exact ih (i + 1) I1 (by omega) ⟨by rw [c1]; exact h6.1, by rw [c2]; exact h6.2⟩ h60 h5 hS
        · have hk : fKc F i = true := by
            cases hz : fKc F i with
            | true => rfl
            | false => rw [hz] at z; exact absurd rfl z
          have hp : (2 : Nat) ^ (2 * i) ≤ 2 ^ 12 := Nat.pow_le_pow_right (by decide) (by omega)
          have hvp : fVc F i * 2 ^ (2 * i) ≤ 3 * 2 ^ 12 := Nat.mul_le_mul (by omega) hp
          have e2 : ((2 : Int32) * nI i) &&& 31 = nI (2 * i) &&& 31 := by rw [show (2 : Int32) = nI 2 from rfl, pk_mul]
          rw [hk, if_pos rfl, e2, h6.1, h6.2, show (3 : Int32) = nI 3 from rfl, bt_shl (by omega) (by omega), bt_shl (by omega) (by omega), bt_or (by omega) (by omega), bt_or (by omega) (by omega), ← ckP_t hk, ← crP_t hk hv]
          refine ih (i + 1) _ (by omega) ⟨by rw [up_at, if_neg (by omega), up_at, if_pos ⟨rfl, rfl⟩], by rw [up_at, if_pos ⟨rfl, rfl⟩]⟩ ⟨by rw [up_at, if_neg (by omega), up_at, if_neg (by omega)]; exact h60.1, by rw [up_at, if_neg (by omega), up_at, if_neg (by omega)]; exact h60.2⟩ (by rw [up_at, if_neg (by omega), up_at, if_neg (by omega)]; exact h5) ((hS.up (Or.inr ⟨rfl, by omega⟩)).up (Or.inr ⟨rfl, by omega⟩))
  have t0 : s_X9_tries_0 γ l m (sh, I, J, R) (fun hf v => ∃ I', hf = (sh, I', J, R) ∧ v = none ∧ (ReM I' m N F (SqB N 4) ∧ (I' m 59 = 1 ∧ I' m 64 = nI (ckN N F) ∧ I' m 65 = nI (crF N F)) ∧ Sm (Ftri m) I I')) := by
    refine w_X9_tries_0 hA ⟨fun _ => l35 (N - 1) 0 _ (by omega) ⟨?_, ?_⟩ ⟨?_, ?_⟩ ?_ (((((Sm.rf.up (Or.inr ⟨rfl, by omega⟩)).up (Or.inl (Or.inl (Or.inl (Or.inl ⟨rfl, Or.inl rfl⟩))))).up (Or.inl (Or.inl (Or.inl (Or.inl ⟨rfl, Or.inr rfl⟩))))).up (Or.inr ⟨rfl, by omega⟩)).up (Or.inr ⟨rfl, by omega⟩)), fun z => absurd h59 z⟩
    · simp [up_at]; rfl
    · simp [up_at]; rfl
    · simp [up_at]
    · simp [up_at]
    · simp [up_at]
  obtain ⟨I', q1, q2⟩ := rW_ex t0
  exact ⟨I', e_X9_tries q1, q2⟩
theorem ct_tries1 (hA : At9 sh R m) (h59 : I m 59 = 1) : rMet γ l m_X9_tries [.ref m] (sh, I, J, R) (sh, I, J, R) none :=
  e_X9_tries (rW_pure (w_X9_tries_0 hA ⟨fun z => absurd z (by rw [h59]; decide), fun _ => ⟨rfl, rfl⟩⟩))
/-- the model's answer to shut, once all rows are known -/
theorem shut_loop {L : List En} (hA : At9 sh R m) (hR : ReM I m N F L) (hN : N ≤ 8) (hL : ∀ x, x ∈ L → x.1.1 < 2 ^ 14) (h64 : I m 64 = nI (ckN N F)) (h65 : I m 65 = nI (crF N F)) : s_X9_shut_15 γ l m 0 (sh, I, J, R) (fun hf v => hf = (sh, I, J, R) ∧ ((Two N F L ∧ v = some (.int 2)) ∨ (¬ Two N F L ∧ v = some (.int 0)))) := by
  obtain ⟨b1, b2, b3, b4, b5, b6⟩ := sk_31 N F hN
  have lv : ∀ y, y < 16384 → (I (m + 42) y = 0 ↔ ¬ ∃ e, e ∈ L ∧ sbC N F (onm N F e) ∧ e.1.1 = y) := fun y hy => by rw [hR.2 y hy, bz_0]
  have mt : ∀ p q, p < 16384 → q < 16384 → (((nI p ||| nI q) &&& I m 64 = I m 65) ↔ (p ||| q) &&& ckN N F = crF N F) := by
    intro p q hp hq
    have : p ||| q < 2 ^ 14 := Nat.or_lt_two_pow hp hq
    rw [h64, h65, bt_or (by omega) (by omega), and_eq (by omega) (by omega) (by omega), beq_iff_eq]
  have inner : ∀ p, p < 16384 → (∃ e, e ∈ L ∧ sbC N F (onm N F e) ∧ e.1.1 = p) → ((¬ ∃ q, p ≤ q ∧ q < 16384 ∧ (∃ e, e ∈ L ∧ sbC N F (onm N F e) ∧ e.1.1 = q) ∧ (p ||| q) &&& ckN N F = crF N F) → s_X9_shut_15 γ l m (nI (p + 1)) (sh, I, J, R) (fun hf v => hf = (sh, I, J, R) ∧ ((Two N F L ∧ v = some (.int 2)) ∨ (¬ Two N F L ∧ v = some (.int 0))))) → ∀ j q, q + j = 16384 → p ≤ q → (¬ ∃ q', p ≤ q' ∧ q' < q ∧ (∃ e, e ∈ L ∧ sbC N F (onm N F e) ∧ e.1.1 = q') ∧ (p ||| q') &&& ckN N F = crF N F) → s_X9_shut_36 γ l m (nI p) (nI q) (sh, I, J, R) (fun hf v => hf = (sh, I, J, R) ∧ ((Two N F L ∧ v = some (.int 2)) ∨ (¬ Two N F L ∧ v = some (.int 0)))) := by
    intro p hp hpe K j
    induction j with
    | zero =>
      intro q hq hpq hn
      have eq : q = 16384 := by omega
      subst eq
      refine w_X9_shut_36 hA ⟨fun _ => ?_, fun z => absurd (by decide) z⟩
      rw [nI_1]
      exact K hn
    | succ j ih =>
      intro q hq hpq hn
      refine w_X9_shut_36 hA ⟨fun z => absurd z (nI_ge (b := 16384) (by omega) (by decide)), fun _ => ⟨vp_in_nI (by omega) (by decide), ?_⟩⟩
      rw [nI_clamp (by omega), lv q (by omega), mt p q hp (by omega), nI_1]
      refine ⟨fun z => ih (q + 1) (by omega) (by omega) ?_, fun z => ⟨fun y => ⟨rfl, Or.inl ⟨?_, rfl⟩⟩, fun y => ih (q + 1) (by omega) (by omega) ?_⟩⟩
      · rintro ⟨q', a1, a2, a3, a4⟩
        by_cases e : q' = q
        · subst e; exact z a3
        · exact hn ⟨q', a1, by omega, a3, a4⟩
      · rw [Classical.not_not] at z
        obtain ⟨x, x1, _, x3⟩ := hpe
        obtain ⟨w, w1, _, w3⟩ := z
        exact ⟨x, x1, w, w1, by rw [x3, w3]; exact y⟩
      · rintro ⟨q', a1, a2, a3, a4⟩
        by_cases e : q' = q
        · subst e; exact y a4
        · exact hn ⟨q', a1, by omega, a3, a4⟩
  have outer : ∀ j p, p + j = 16384 → (¬ ∃ p' q', p' < p ∧ p' ≤ q' ∧ q' < 16384 ∧ (∃ e, e ∈ L ∧ sbC N F (onm N F e) ∧ e.1.1 = p') ∧ (∃ e, e ∈ L ∧ sbC N F (onm N F e) ∧ e.1.1 = q') ∧ (p' ||| q') &&& ckN N F = crF N F) → s_X9_shut_15 γ l m (nI p) (sh, I, J, R) (fun hf v => hf = (sh, I, J, R) ∧ ((Two N F L ∧ v = some (.int 2)) ∨ (¬ Two N F L ∧ v = some (.int 0)))) := by
    intro j
    induction j with
    | zero =>
      intro p hp hn
      have ep : p = 16384 := by omega
      subst ep
      refine w_X9_shut_15 hA ⟨fun _ => ⟨rfl, Or.inr ⟨fun h2 => ?_, rfl⟩⟩, fun z => absurd (by decide) z⟩
      obtain ⟨x, x1, y, y1, hxy⟩ := h2
      have gx : sbC N F (onm N F x) ∧ sbC N F (onm N F y) := by
        constructor
        · intro k hk
          unfold onm at hk
          rw [← hxy]
          rw [Nat.testBit_and, Bool.and_eq_true] at hk
          rw [Nat.testBit_and, Nat.testBit_or, hk.1, hk.2]
          rfl
        · intro k hk
          unfold onm at hk
          rw [← hxy]
          rw [Nat.testBit_and, Bool.and_eq_true] at hk
          rw [Nat.testBit_and, Nat.testBit_or, hk.1, hk.2, Bool.or_true]
          rfl
      have bx := hL x x1
      have bY := hL y y1
      rcases Nat.le_total x.1.1 y.1.1 with w | w
      · exact hn ⟨x.1.1, y.1.1, by omega, w, by omega, ⟨x, x1, gx.1, rfl⟩, ⟨y, y1, gx.2, rfl⟩, hxy⟩
      · exact hn ⟨y.1.1, x.1.1, by omega, w, by omega, ⟨y, y1, gx.2, rfl⟩, ⟨x, x1, gx.1, rfl⟩, by rw [Nat.or_comm]; exact hxy⟩
    | succ j ih =>
      intro p hp hn
      refine w_X9_shut_15 hA ⟨fun z => absurd z (nI_ge (b := 16384) (by omega) (by decide)), fun _ => ⟨vp_in_nI (by omega) (by decide), ?_⟩⟩
      rw [nI_clamp (by omega), lv p (by omega)]
      refine ⟨fun z => ?_, fun z => ?_⟩
      · rw [nI_1]
        refine ih (p + 1) (by omega) ?_
        rintro ⟨p', q', a1, a2, a3, a4, a5, a6⟩
        by_cases e : p' = p
        · subst e; exact z a4
        · exact hn ⟨p', q', by omega, a2, a3, a4, a5, a6⟩
      · rw [Classical.not_not] at z
        refine inner p (by omega) z (fun hnn => ih (p + 1) (by omega) ?_) (16384 - p) p (by omega) (Nat.le_refl _) ?_
        · rintro ⟨p', q', a1, a2, a3, a4, a5, a6⟩
          by_cases e : p' = p
          · subst e; exact hnn ⟨q', a2, a3, a5, a6⟩
          · exact hn ⟨p', q', by omega, a2, a3, a4, a5, a6⟩
        · rintro ⟨q', a1, a2, _⟩
          omega
  exact outer 16384 0 (by omega) (fun ⟨p', q', a1, _⟩ => by omega)
end TRI
