/-! ===== does a packet pass through itself: the model ===== -/
def mCr (P : Pk) (i : Nat) : Prop := i + 1 < pN P ∧ pC P i = pC P (i + 1)
def mFt (P : Pk) (i : Nat) : Prop := i + 1 < pN P ∧ ¬ pC P i = pC P (i + 1)
def lwL (P : Pk) (i : Nat) : Nat := if pL P i < pL P (i + 1) then pL P i else pL P (i + 1)
def hgL (P : Pk) (i : Nat) : Nat := if pL P i < pL P (i + 1) then pL P (i + 1) else pL P i
def gOn (P : Pk) (i : Nat) (r : Bool) : Prop := (0 < i ∧ (pC P (i - 1) : Int) = (pC P i : Int) + (if r then 1 else -1)) ∨ (i + 1 < pN P ∧ (pC P (i + 1) : Int) = (pC P i : Int) + (if r then 1 else -1))
def mnC (P : Pk) (i : Nat) : Nat := if pC P i < pC P (i + 1) then pC P i else pC P (i + 1)
def lfP (P : Pk) (i : Nat) : Nat := if pC P i = mnC P i then i else i + 1
def rtP (P : Pk) (i : Nat) : Nat := 2 * i + 1 - lfP P i
def mSt (P : Pk) (i j : Nat) : Prop := ¬ mnC P i = mnC P j ∨ (pL P (lfP P i) < pL P (lfP P j) ↔ pL P (rtP P i) < pL P (rtP P j))
def B1 (P : Pk) (i j : Nat) : Prop := mCr P i ∧ mCr P j ∧ pC P i = pC P j ∧ pU P i = pU P j ∧ ¬ ((lwL P i < lwL P j ∧ lwL P j < hgL P i) ↔ (lwL P i < hgL P j ∧ hgL P j < hgL P i))
def B2 (P : Pk) (i j : Nat) : Prop := mFt P i ∧ mFt P j ∧ ¬ mSt P i j
def B3 (P : Pk) (i p : Nat) : Prop := pC P p = pC P i ∧ lwL P i < pL P p ∧ pL P p < hgL P i ∧ gOn P p (pU P i)
def badA (P : Pk) (i : Nat) : Prop := (∃ j, j < pN P ∧ i ≠ j ∧ (B1 P i j ∨ B2 P i j)) ∨ (mCr P i ∧ ∃ p, p < pN P ∧ B3 P i p)
def BadM (P : Pk) : Prop := ∃ i, i < pN P ∧ badA P i
section MAYBE
variable {γ : rG} {l : Launch} {Q : rHeap → Option Value → Prop} {sh : Nat × (Nat → Nat) × (Nat → Nat)} {I : Nat → Nat → Int32} {J : Nat → Nat → Int64} {R : Nat → Nat → Option Nat} {a q : Nat} {P : Pk}
theorem e81 (q p : Nat) : (((8 : Int32) * nI q) + nI p) + 1 = nI (8 * q + (p + 1)) := by rw [e8, nI_1]; rfl
theorem mM (hM : PkM I a q P) (hq : q < 22) (h8 : pN P ≤ 8) {i : Nat} (hi : i < pN P) : (((8 : Int32) * nI q) + nI i).toNatClampNeg = 8 * q + i ∧ vp_in (((8 : Int32) * nI q) + nI i) 176 ∧ I (a + 26) (8 * q + i) = nI (pC P i) ∧ I (a + 27) (8 * q + i) = nI (pL P i) ∧ I (a + 28) (8 * q + i) = nz (pU P i) := by
  refine ⟨by rw [e8]; exact nI_clamp (by omega), by rw [e8]; exact vp_in_nI (by omega) (by decide), hM.2.2 i hi⟩
theorem mM1 (hq : q < 22) (h8 : pN P ≤ 8) {i : Nat} (hi : i + 1 < pN P) : ((((8 : Int32) * nI q) + nI i) + 1).toNatClampNeg = 8 * q + (i + 1) ∧ vp_in ((((8 : Int32) * nI q) + nI i) + 1) 176 := by
  refine ⟨by rw [e81]; exact nI_clamp (by omega), by rw [e81]; exact vp_in_nI (by omega) (by decide)⟩
theorem ct_mCr {i : Nat} (hA : At9 sh R a) (hq : q < 22) (hP : PkV P) (hM : PkM I a q P) (hi : i < pN P) : rMet γ l m_X9_isCrease [.ref a, .int (nI q), .int (nI i)] (sh, I, J, R) (sh, I, J, R) (some (.int (bz (mCr P i)))) := by
  have h8 := hP.2.1
  refine e_X9_isCrease (rW_pure (w_X9_isCrease_0 hA ⟨fun z => absurd z (nI_pos (by omega)), fun _ => ?_⟩))
  rw [hM.1, nI_1, nI_leI (by omega) (by omega)]
  refine ⟨fun z => ⟨rfl, ?_⟩, fun z => ?_⟩
  · rw [bz_f]; intro h; have := h.1; omega
  · obtain ⟨m1, m2, m3, m4, m5⟩ := mM hM hq h8 hi
    obtain ⟨n1, n2⟩ := mM1 (q := q) (P := P) hq h8 (show i + 1 < pN P by omega)
    have m6 := (hM.2.2 (i + 1) (by omega)).1
    rw [m1, n1, m3, m6, nI_eq (hP.b i hi).1 (hP.b (i + 1) (by omega)).1]
    refine ⟨m2, n2, fun y => ⟨rfl, ?_⟩, fun y => ⟨rfl, ?_⟩⟩
    · rw [bz_t]; exact ⟨by omega, y⟩
    · rw [bz_f]; intro h; exact y h.2
theorem ct_mFl {i : Nat} (hA : At9 sh R a) (hq : q < 22) (hP : PkV P) (hM : PkM I a q P) (hi : i < pN P) : rMet γ l m_X9_isFlat [.ref a, .int (nI q), .int (nI i)] (sh, I, J, R) (sh, I, J, R) (some (.int (bz (mFt P i)))) := by
  have h8 := hP.2.1
  refine e_X9_isFlat (rW_pure (w_X9_isFlat_0 hA ⟨fun z => absurd z (nI_pos (by omega)), fun _ => ?_⟩))
  rw [hM.1, nI_1, nI_leI (by omega) (by omega)]
  refine ⟨fun z => ⟨rfl, ?_⟩, fun z => ?_⟩
  · rw [bz_f]; intro h; have := h.1; omega
  · obtain ⟨m1, m2, m3, m4, m5⟩ := mM hM hq h8 hi
    obtain ⟨n1, n2⟩ := mM1 (q := q) (P := P) hq h8 (show i + 1 < pN P by omega)
    have m6 := (hM.2.2 (i + 1) (by omega)).1
    rw [m1, n1, m3, m6, nI_eq (hP.b i hi).1 (hP.b (i + 1) (by omega)).1]
    refine ⟨m2, n2, fun y => ⟨rfl, ?_⟩, fun y => ⟨rfl, ?_⟩⟩
    · rw [bz_f]; intro h; exact h.2 y
    · rw [bz_t]; exact ⟨by omega, y⟩
theorem ct_low {i : Nat} (hA : At9 sh R a) (hq : q < 22) (hP : PkV P) (hM : PkM I a q P) (hi : i + 1 < pN P) : rMet γ l m_X9_low [.ref a, .int (nI q), .int (nI i)] (sh, I, J, R) (sh, I, J, R) (some (.int (nI (lwL P i)))) := by
  have h8 := hP.2.1
  obtain ⟨m1, m2, m3, m4, m5⟩ := mM hM hq h8 (show i < pN P by omega)
  obtain ⟨n1, n2⟩ := mM1 (q := q) (P := P) hq h8 hi
  have m6 := (hM.2.2 (i + 1) (by omega)).2.1
  refine e_X9_low (rW_pure (w_X9_low_0 hA ⟨m2, n2, ?_⟩))
  rw [m1, n1, m4, m6, nI_leI (hP.b (i + 1) hi).2 (hP.b i (by omega)).2]
  refine ⟨fun z => ⟨n2, rfl, ?_⟩, fun z => ⟨m2, rfl, ?_⟩⟩
  · unfold lwL; rw [if_neg (by omega)]
  · unfold lwL; rw [if_pos (by omega)]
theorem ct_high {i : Nat} (hA : At9 sh R a) (hq : q < 22) (hP : PkV P) (hM : PkM I a q P) (hi : i + 1 < pN P) : rMet γ l m_X9_high [.ref a, .int (nI q), .int (nI i)] (sh, I, J, R) (sh, I, J, R) (some (.int (nI (hgL P i)))) := by
  have h8 := hP.2.1
  obtain ⟨m1, m2, m3, m4, m5⟩ := mM hM hq h8 (show i < pN P by omega)
  obtain ⟨n1, n2⟩ := mM1 (q := q) (P := P) hq h8 hi
  have m6 := (hM.2.2 (i + 1) (by omega)).2.1
  refine e_X9_high (rW_pure (w_X9_high_0 hA ⟨m2, n2, ?_⟩))
  rw [m1, n1, m4, m6, nI_leI (hP.b (i + 1) hi).2 (hP.b i (by omega)).2]
  refine ⟨fun z => ⟨m2, rfl, ?_⟩, fun z => ⟨n2, rfl, ?_⟩⟩
  · unfold hgL; rw [if_neg (by omega)]
  · unfold hgL; rw [if_pos (by omega)]
theorem lh_31 {i : Nat} (hP : PkV P) (hi : i + 1 < pN P) : lwL P i < 2 ^ 31 ∧ hgL P i < 2 ^ 31 := by
  have := hP.b i (by omega)
  have := hP.b (i + 1) hi
  unfold lwL hgL
  constructor <;> split <;> omega
theorem ct_goesOn {i : Nat} {r : Bool} (hA : At9 sh R a) (hq : q < 22) (hP : PkV P) (hM : PkM I a q P) (hi : i < pN P) : rMet γ l m_X9_goesOn [.ref a, .int (nI q), .int (nI i), .int (nz r)] (sh, I, J, R) (sh, I, J, R) (some (.int (bz (gOn P i r)))) := by
  have h8 := hP.2.1
  have h4 := hP.2.2.2.1
  obtain ⟨m1, m2, m3, m4, m5⟩ := mM hM hq h8 hi
  have hci := (hP.2.2.2.2.1 i hi).1
  have cz : ∀ k, k < pN P → ∀ s : Int, s = 1 ∨ s = -1 → (nI (pC P k) = nI (pC P i) + zI s ↔ (pC P k : Int) = (pC P i : Int) + s) := by
    intro k hk s hs
    have hck := (hP.2.2.2.2.1 k hk).1
    rw [zI_nat, zI_nat, zI_add, zI_eq (by unfold zOk; omega) (by unfold zOk; omega)]
  have b45 : ∀ s : Int, s = (if r then 1 else -1) → ¬ (0 < i ∧ (pC P (i - 1) : Int) = (pC P i : Int) + s) → s_X9_goesOn_45 γ l a (nI q) (nI i) (nI (pC P i) + zI s) (sh, I, J, R) (fun hf v => hf = (sh, I, J, R) ∧ v = some (.int (bz (gOn P i r)))) := by
    intro s hs hn
    refine w_X9_goesOn_45 hA ?_
    rw [hM.1, nI_1, nI_leI (by omega) (by omega)]
    refine ⟨fun z => ⟨rfl, ?_⟩, fun z => ?_⟩
    · rw [bz_f]; unfold gOn; rw [← hs]; intro h; rcases h with h | h
      · exact hn h
      · omega
    · obtain ⟨n1, n2⟩ := mM1 (q := q) (P := P) hq h8 (show i + 1 < pN P by omega)
      have m6 := (hM.2.2 (i + 1) (by omega)).1
      rw [n1, m6, cz (i + 1) (by omega) s (by rw [hs]; cases r <;> simp)]
      refine ⟨n2, fun y => ⟨rfl, ?_⟩, fun y => ⟨rfl, ?_⟩⟩
      · rw [bz_t]; unfold gOn; rw [← hs]; exact Or.inr ⟨by omega, y⟩
      · rw [bz_f]; unfold gOn; rw [← hs]; intro h; rcases h with h | h
        · exact hn h
        · exact y h.2
  have b20 : ∀ s : Int, s = (if r then 1 else -1) → s_X9_goesOn_20 γ l a (nI q) (nI i) (zI s) (nI (pC P i)) (sh, I, J, R) (fun hf v => hf = (sh, I, J, R) ∧ v = some (.int (bz (gOn P i r)))) := by
    intro s hs
    refine w_X9_goesOn_20 hA ⟨fun z => b45 s hs ?_, fun z => ?_⟩
    · rw [show (0 : Int32) = nI 0 by decide, nI_leI (by omega) (by omega)] at z; omega
    · rw [show (0 : Int32) = nI 0 by decide, nI_leI (by omega) (by omega)] at z
      have m6 := (hM.2.2 (i - 1) (by omega)).1
      have e : (((8 : Int32) * nI q) + nI i) - 1 = nI (8 * q + (i - 1)) := by rw [e8, show (1 : Int32) = nI 1 by decide, pk_sub (by omega)]; congr 1; omega
      rw [e, nI_clamp (by omega), m6, cz (i - 1) (by omega) s (by rw [hs]; cases r <;> simp)]
      refine ⟨vp_in_nI (by omega) (by decide), fun y => ⟨rfl, ?_⟩, fun y => b45 s hs (fun h => y h.2)⟩
      rw [bz_t]; unfold gOn; rw [← hs]; exact Or.inl ⟨by omega, y⟩
  refine e_X9_goesOn (rW_pure (w_X9_goesOn_0 hA ⟨m2, ?_⟩))
  rw [m1, m3, nz_0]
  refine ⟨fun z => ?_, fun z => ?_⟩
  · subst z; exact b20 (-1) (by simp)
  · have : r = true := by simpa using z
    subst this; exact b20 1 (by simp)
theorem lr_b {i : Nat} : (lfP P i = i ∨ lfP P i = i + 1) ∧ (rtP P i = i ∨ rtP P i = i + 1) := by
  unfold rtP lfP
  split <;> omega
theorem ct_isStraight {i j : Nat} (hA : At9 sh R a) (hq : q < 22) (hP : PkV P) (hM : PkM I a q P) (hi : i + 1 < pN P) (hj : j + 1 < pN P) : rMet γ l m_X9_isStraight [.ref a, .int (nI q), .int (nI i), .int (nI j)] (sh, I, J, R) (sh, I, J, R) (some (.int (bz (mSt P i j)))) := by
  have h8 := hP.2.1
  obtain ⟨m1, m2, m3, m4, m5⟩ := mM hM hq h8 (show i < pN P by omega)
  obtain ⟨n1, n2⟩ := mM1 (q := q) (P := P) hq h8 hi
  have m6 := (hM.2.2 (i + 1) (by omega)).1
  obtain ⟨k1, k2, k3, k4, k5⟩ := mM hM hq h8 (show j < pN P by omega)
  obtain ⟨o1, o2⟩ := mM1 (q := q) (P := P) hq h8 hj
  have k6 := (hM.2.2 (j + 1) (by omega)).1
  have li := lr_b (P := P) (i := i)
  have lj := lr_b (P := P) (i := j)
  have mb : ∀ k, k + 1 < pN P → mnC P k < 2 ^ 31 := fun k hk => by
    have := hP.b k (by omega)
    have := hP.b (k + 1) hk
    unfold mnC; split <;> omega
  have b223 : mnC P i = mnC P j → s_X9_isStraight_223 γ l a (nI q) (nI (rtP P i)) (nI (rtP P j)) (bz (pL P (lfP P i) < pL P (lfP P j))) (sh, I, J, R) (fun hf v => hf = (sh, I, J, R) ∧ v = some (.int (bz (mSt P i j)))) := by
    intro hc
    obtain ⟨r1, r2, r3, r4, r5⟩ := mM hM hq h8 (show rtP P i < pN P by omega)
    obtain ⟨s1, s2, s3, s4, s5⟩ := mM hM hq h8 (show rtP P j < pN P by omega)
    refine w_X9_isStraight_223 hA ⟨r2, s2, ?_⟩
    rw [r1, s1, r4, s4, nI_leI (hP.b _ (by omega)).2 (hP.b _ (by omega)).2, bz_0, bz_1]
    refine ⟨fun z => ⟨fun y => ⟨rfl, ?_⟩, fun y => ⟨rfl, ?_⟩⟩, fun z => ⟨fun y => ⟨rfl, ?_⟩, fun y => ⟨rfl, ?_⟩⟩⟩
    · rw [bz_t]; unfold mSt; omega
    · rw [bz_f]; unfold mSt; omega
    · rw [bz_t]; unfold mSt; omega
    · rw [bz_f]; unfold mSt; omega
  have b169 : mnC P i = mnC P j → s_X9_isStraight_169 γ l a (nI q) (nI i) (nI j) (nI (lfP P i)) (nI (lfP P j)) (sh, I, J, R) (fun hf v => hf = (sh, I, J, R) ∧ v = some (.int (bz (mSt P i j)))) := by
    intro hc
    obtain ⟨r1, r2, r3, r4, r5⟩ := mM hM hq h8 (show lfP P i < pN P by omega)
    obtain ⟨s1, s2, s3, s4, s5⟩ := mM hM hq h8 (show lfP P j < pN P by omega)
    have rr : ∀ k, k + 1 < pN P → (((2 : Int32) * nI k) + 1) - nI (lfP P k) = nI (rtP P k) := by
      intro k hk
      have := lr_b (P := P) (i := k)
      rw [show (2 : Int32) = nI 2 by decide, pk_mul, nI_1, pk_sub (by omega)]; rfl
    have nx := b223 hc
    refine w_X9_isStraight_169 hA ⟨r2, s2, ?_⟩
    rw [r1, s1, r4, s4, nI_leI (hP.b _ (by omega)).2 (hP.b _ (by omega)).2, rr i hi, rr j hj]
    refine ⟨fun z => ?_, fun z => ?_⟩
    · rw [bz_f (by omega)] at nx; exact nx
    · rw [bz_t (by omega)] at nx; exact nx
  have b110 : s_X9_isStraight_110 γ l a (nI q) (nI i) (nI j) (nI (mnC P i)) (nI (mnC P j)) (sh, I, J, R) (fun hf v => hf = (sh, I, J, R) ∧ v = some (.int (bz (mSt P i j)))) := by
    refine w_X9_isStraight_110 hA ?_
    rw [nI_eq (mb i hi) (mb j hj), m1, m3, nI_eq (hP.b i (by omega)).1 (mb i hi), nI_1]
    refine ⟨fun z => ⟨m2, ?_⟩, fun z => ⟨rfl, ?_⟩⟩
    · have b144 : s_X9_isStraight_144 γ l a (nI q) (nI i) (nI j) (nI (mnC P i)) (nI (lfP P i)) (sh, I, J, R) (fun hf v => hf = (sh, I, J, R) ∧ v = some (.int (bz (mSt P i j)))) := by
        have nx := b169 z
        refine w_X9_isStraight_144 hA ⟨k2, ?_⟩
        rw [k1, k3, z, nI_eq (hP.b j (by omega)).1 (mb j hj), nI_1]
        refine ⟨fun y => ?_, fun y => ?_⟩
        · rw [show lfP P j = j from if_pos y] at nx; exact nx
        · rw [show lfP P j = j + 1 from if_neg y] at nx; exact nx
      refine ⟨fun y => ?_, fun y => ?_⟩
      · rw [show lfP P i = i from if_pos y] at b144; exact b144
      · rw [show lfP P i = i + 1 from if_neg y] at b144; exact b144
    · rw [bz_t]; exact Or.inl z
  have b54 : s_X9_isStraight_54 γ l a (nI q) (nI i) (nI j) (nI (mnC P i)) (sh, I, J, R) (fun hf v => hf = (sh, I, J, R) ∧ v = some (.int (bz (mSt P i j)))) := by
    refine w_X9_isStraight_54 hA ⟨k2, o2, ?_⟩
    rw [k1, o1, k3, k6, nI_leI (hP.b _ (by omega)).1 (hP.b _ (by omega)).1]
    refine ⟨fun z => ⟨o2, ?_⟩, fun z => ⟨k2, ?_⟩⟩
    · rw [show mnC P j = pC P (j + 1) from if_neg (by omega)] at b110; exact b110
    · rw [show mnC P j = pC P j from if_pos (by omega)] at b110; exact b110
  refine e_X9_isStraight (rW_pure (w_X9_isStraight_0 hA ⟨m2, n2, ?_⟩))
  rw [m1, n1, m3, m6, nI_leI (hP.b _ (by omega)).1 (hP.b _ (by omega)).1]
  refine ⟨fun z => ⟨n2, ?_⟩, fun z => ⟨m2, ?_⟩⟩
  · rw [show mnC P i = pC P (i + 1) from if_neg (by omega)] at b54; exact b54
  · rw [show mnC P i = pC P i from if_pos (by omega)] at b54; exact b54
theorem maybe229 {i : Nat} (hA : At9 sh R a) (hq : q < 22) (hP : PkV P) (hM : PkM I a q P) (hi : i + 1 < pN P) (K1 : (∃ p, p < pN P ∧ B3 P i p) → Q (sh, I, J, R) (some (.int 0))) (K0 : (∀ p, p < pN P → ¬ B3 P i p) → s_X9_mayBe_2 γ l a (nI q) (nI (i + 1)) (sh, I, J, R) Q) :
    ∀ n p, p + n = pN P → (∀ k, k < p → ¬ B3 P i k) → s_X9_mayBe_229 γ l a (nI q) (nI i) (nI p) (sh, I, J, R) Q := by
  have h8 := hP.2.1
  intro n
  induction n with
  | zero =>
    intro p hp hb
    refine w_X9_mayBe_229 hA ⟨fun _ => ?_, fun z => absurd (by rw [hM.1]; exact nI_le (by omega) (by omega)) z⟩
    rw [nI_1]
    exact K0 (fun k hk => hb k (by omega))
  | succ n ih =>
    intro p hp hb
    obtain ⟨m1, m2, m3, m4, m5⟩ := mM hM hq h8 (show i < pN P by omega)
    obtain ⟨k1, k2, k3, k4, k5⟩ := mM hM hq h8 (show p < pN P by omega)
    have nx : ¬ B3 P i p → s_X9_mayBe_229 γ l a (nI q) (nI i) (nI p + 1) (sh, I, J, R) Q := by
      intro h
      rw [nI_1]
      refine ih (p + 1) (by omega) (fun k hk => ?_)
      by_cases e : k = p
      · subst e; exact h
      · exact hb k (by omega)
    refine w_X9_mayBe_229 hA ⟨fun z => absurd z (by rw [hM.1]; exact nI_ge (by omega) (by omega)), fun _ => ⟨k2, m2, ?_⟩⟩
    rw [m1, k1, m3, k3, k4, m5, nI_eq (hP.b _ (by omega)).1 (hP.b _ (by omega)).1]
    refine ⟨fun z => ⟨k2, _, ct_low hA hq hP hM hi, ?_⟩, fun z => nx (fun h => z h.1)⟩
    rw [nI_leI (hP.b _ (by omega)).2 (lh_31 hP hi).1]
    refine ⟨fun y => nx (fun h => by have := h.2.1; omega), fun y => ⟨k2, _, ct_high hA hq hP hM hi, ?_⟩⟩
    rw [nI_ltI (hP.b _ (by omega)).2 (lh_31 hP hi).2]
    refine ⟨fun x => ⟨m2, _, ct_goesOn hA hq hP hM (by omega), ?_⟩, fun x => nx (fun h => x h.2.2.1)⟩
    rw [bz_0]
    exact ⟨fun w => nx (fun h => w h.2.2.2), fun w => K1 ⟨p, by omega, z, by omega, x, Classical.byContradiction w⟩⟩
theorem maybe12 {i : Nat} (hA : At9 sh R a) (hq : q < 22) (hP : PkV P) (hM : PkM I a q P) (hi : i < pN P) (K1 : badA P i → Q (sh, I, J, R) (some (.int 0))) (K0 : ¬ badA P i → s_X9_mayBe_2 γ l a (nI q) (nI (i + 1)) (sh, I, J, R) Q) :
    ∀ n j, j + n = pN P → (∀ k, k < j → i ≠ k → ¬ (B1 P i k ∨ B2 P i k)) → s_X9_mayBe_12 γ l a (nI q) (nI i) (nI j) (sh, I, J, R) Q := by
  have h8 := hP.2.1
  intro n
  induction n with
  | zero =>
    intro j hj hb
    refine w_X9_mayBe_12 hA ⟨fun _ => ⟨_, ct_mCr hA hq hP hM hi, ?_⟩, fun z => absurd (by rw [hM.1]; exact nI_le (by omega) (by omega)) z⟩
    have hb' : ¬ (∃ j, j < pN P ∧ i ≠ j ∧ (B1 P i j ∨ B2 P i j)) := fun ⟨k, hk, h1, h2⟩ => hb k (by omega) h1 h2
    rw [bz_0, nI_1]
    refine ⟨fun z => K0 (fun h => h.elim hb' (fun w => z w.1)), fun z => ?_⟩
    have z' := Classical.byContradiction z
    exact maybe229 hA hq hP hM z'.1 (fun h => K1 (Or.inr ⟨z', h⟩)) (fun h => K0 (fun w => w.elim hb' (fun ⟨_, p, hp, h2⟩ => h p hp h2))) (pN P) 0 (by omega) (fun k hk => by omega)
  | succ n ih =>
    intro j hj hb
    have hjN : j < pN P := by omega
    have nx : (i ≠ j → ¬ (B1 P i j ∨ B2 P i j)) → s_X9_mayBe_12 γ l a (nI q) (nI i) (nI j + 1) (sh, I, J, R) Q := by
      intro h
      rw [nI_1]
      refine ih (j + 1) (by omega) (fun k hk => ?_)
      by_cases e : k = j
      · subst e; exact h
      · exact hb k (by omega)
    have b179 : i ≠ j → ¬ B1 P i j → s_X9_mayBe_179 γ l a (nI q) (nI i) (nI j) (sh, I, J, R) Q := by
      intro hij h1
      refine w_X9_mayBe_179 hA ⟨_, ct_mFl hA hq hP hM hi, ?_⟩
      rw [bz_0]
      refine ⟨fun z => nx (fun _ h => h.elim h1 (fun w => z w.1)), fun z => ⟨_, ct_mFl hA hq hP hM hjN, ?_⟩⟩
      rw [bz_0]
      refine ⟨fun y => nx (fun _ h => h.elim h1 (fun w => y w.2.1)), fun y => ?_⟩
      have z' := Classical.byContradiction z
      have y' := Classical.byContradiction y
      refine ⟨_, ct_isStraight hA hq hP hM z'.1 y'.1, ?_⟩
      rw [bz_0]
      exact ⟨fun x => K1 (Or.inl ⟨j, hjN, hij, Or.inr ⟨z', y', x⟩⟩), fun x => nx (fun _ h => h.elim h1 (fun w => x w.2.2))⟩
    refine w_X9_mayBe_12 hA ⟨fun z => absurd z (by rw [hM.1]; exact nI_ge (by omega) (by omega)), fun _ => ?_⟩
    rw [nI_eq (by omega) (by omega)]
    refine ⟨fun z => nx (fun h => absurd z h), fun hij => ⟨_, ct_mCr hA hq hP hM hi, ?_⟩⟩
    rw [bz_0]
    refine ⟨fun z => b179 hij (fun h => z h.1), fun z => ⟨_, ct_mCr hA hq hP hM hjN, ?_⟩⟩
    rw [bz_0]
    refine ⟨fun y => b179 hij (fun h => y h.2.1), fun y => ?_⟩
    have z' := Classical.byContradiction z
    have y' := Classical.byContradiction y
    obtain ⟨m1, m2, m3, m4, m5⟩ := mM hM hq h8 hi
    obtain ⟨k1, k2, k3, k4, k5⟩ := mM hM hq h8 hjN
    refine ⟨m2, k2, ?_⟩
    rw [m1, k1, m3, k3, m5, k5, nI_eq (hP.b _ (by omega)).1 (hP.b _ (by omega)).1, nz_eq]
    refine ⟨fun x => ⟨m2, k2, fun w => ?_, fun w => b179 hij (fun h => w h.2.2.2.1)⟩, fun x => b179 hij (fun h => x h.2.2.1)⟩
    have li := lh_31 hP z'.1
    have lj := lh_31 hP y'.1
    have b168 : ∀ (s0 s1 : Int32), s0 = bz (lwL P i < lwL P j ∧ lwL P j < hgL P i) → s1 = bz (lwL P i < hgL P j ∧ hgL P j < hgL P i) → s_X9_mayBe_168 γ l a (nI q) (nI i) (nI j) s0 s1 (sh, I, J, R) Q := by
      intro s0 s1 h0 h1
      subst h0; subst h1
      refine w_X9_mayBe_168 hA ?_
      rw [bz_eq]
      exact ⟨fun u => b179 hij (fun h => h.2.2.2.2 u), fun u => K1 (Or.inl ⟨j, hjN, hij, Or.inl ⟨z', y', x, w, u⟩⟩)⟩
    have b131 : ∀ s0 : Int32, s0 = bz (lwL P i < lwL P j ∧ lwL P j < hgL P i) → s_X9_mayBe_131 γ l a (nI q) (nI i) (nI j) s0 (sh, I, J, R) Q := by
      intro s0 h0
      refine w_X9_mayBe_131 hA ⟨_, ct_low hA hq hP hM z'.1, _, ct_high hA hq hP hM y'.1, ?_⟩
      rw [nI_leI lj.2 li.1]
      refine ⟨fun u => w_X9_mayBe_167 hA (b168 _ _ h0 (by rw [bz_f]; omega)), fun u => ⟨_, ct_high hA hq hP hM y'.1, _, ct_high hA hq hP hM z'.1, ?_⟩⟩
      rw [nI_leI li.2 lj.2]
      exact ⟨fun v => w_X9_mayBe_167 hA (b168 _ _ h0 (by rw [bz_f]; omega)), fun v => b168 _ _ h0 (by rw [bz_t]; omega)⟩
    refine ⟨_, ct_low hA hq hP hM z'.1, _, ct_low hA hq hP hM y'.1, ?_⟩
    rw [nI_leI lj.1 li.1]
    refine ⟨fun u => w_X9_mayBe_130 hA (b131 _ (by rw [bz_f]; omega)), fun u => ⟨_, ct_low hA hq hP hM y'.1, _, ct_high hA hq hP hM z'.1, ?_⟩⟩
    rw [nI_leI li.2 lj.1]
    exact ⟨fun v => w_X9_mayBe_130 hA (b131 _ (by rw [bz_f]; omega)), fun v => b131 _ (by rw [bz_t]; omega)⟩
theorem maybe2 (hA : At9 sh R a) (hq : q < 22) (hP : PkV P) (hM : PkM I a q P) : ∀ n i, i + n = pN P → (∀ k, k < i → ¬ badA P k) → s_X9_mayBe_2 γ l a (nI q) (nI i) (sh, I, J, R) (fun hf r => hf = (sh, I, J, R) ∧ r = some (.int (bz (¬ BadM P)))) := by
  have h8 := hP.2.1
  intro n
  induction n with
  | zero =>
    intro i hi hb
    refine w_X9_mayBe_2 hA ⟨fun _ => ⟨rfl, ?_⟩, fun z => absurd (by rw [hM.1]; exact nI_le (by omega) (by omega)) z⟩
    rw [bz_t]
    exact fun ⟨k, hk, h⟩ => hb k (by omega) h
  | succ n ih =>
    intro i hi hb
    refine w_X9_mayBe_2 hA ⟨fun z => absurd z (by rw [hM.1]; exact nI_ge (by omega) (by omega)), fun _ => maybe12 hA hq hP hM (by omega) (fun h => ⟨rfl, ?_⟩) (fun h => ih (i + 1) (by omega) (fun k hk => ?_)) (pN P) 0 (by omega) (fun k hk => by omega)⟩
    · by_cases e : k = i
      · subst e; exact h
      · exact hb k (by omega)
    · rw [bz_f]; exact fun w => w ⟨i, by omega, h⟩
theorem ct_mayBe (hA : At9 sh R a) (hq : q < 22) (hP : PkV P) (hM : PkM I a q P) : rMet γ l m_X9_mayBe [.ref a, .int (nI q)] (sh, I, J, R) (sh, I, J, R) (some (.int (bz (¬ BadM P)))) :=
  e_X9_mayBe (rW_pure (w_X9_mayBe_0 hA (maybe2 hA hq hP hM (pN P) 0 (by omega) (fun k hk => by omega))))
end MAYBE
