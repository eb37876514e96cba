/-! ===== packets: a value, and how the class holds it ===== -/
/-- parts, columns, a part's column, layer, whether its text lies up -/
abbrev Pk : Type := Nat × Nat × (Nat → Nat) × (Nat → Nat) × (Nat → Bool)
abbrev pN (P : Pk) : Nat := P.1
abbrev pW (P : Pk) : Nat := P.2.1
abbrev pC (P : Pk) : Nat → Nat := P.2.2.1
abbrev pL (P : Pk) : Nat → Nat := P.2.2.2.1
abbrev pU (P : Pk) : Nat → Bool := P.2.2.2.2
/-- how many of the first k lie in column c -/
def cnt (f : Nat → Nat) (c : Nat) : Nat → Nat
  | 0 => 0
  | k + 1 => cnt f c k + (if f k = c then 1 else 0)
theorem cnt_le (f : Nat → Nat) (c : Nat) : ∀ k, cnt f c k ≤ k := by
  intro k
  induction k with
  | zero => exact Nat.le_refl 0
  | succ k ih => simp only [cnt]; split <;> omega
theorem cnt_congr {f g : Nat → Nat} {c : Nat} : ∀ k, (∀ p, p < k → (f p = c ↔ g p = c)) → cnt f c k = cnt g c k := by
  intro k
  induction k with
  | zero => intro _; rfl
  | succ k ih =>
    intro h
    simp only [cnt]
    rw [ih (fun p hp => h p (by omega))]
    have := h k (by omega)
    by_cases hc : f k = c
    · rw [if_pos hc, if_pos (this.mp hc)]
    · rw [if_neg hc, if_neg (fun q => hc (this.mpr q))]
/-- the class's packet at a -/
def PkC (I : Nat → Nat → Int32) (a : Nat) (P : Pk) : Prop :=
  I a 0 = nI (pN P) ∧ I a 1 = nI (pW P) ∧ (∀ p, p < pN P → I (a + 1) p = nI (pC P p) ∧ I (a + 2) p = nI (pL P p) ∧ I (a + 3) p = nz (pU P p)) ∧ (∀ c, c < 8 → I (a + 4) c = nI (cnt (pC P) c (pN P))) ∧ ∀ p, p < pN P → I (a + 5) (8 * pC P p + pL P p) = nI p
theorem PkC.loc {I I' : Nat → Nat → Int32} {a : Nat} {P : Pk} (h : PkC I a P) (hq : ∀ b, a ≤ b → b < a + 6 → I' b = I b) : PkC I' a P := by
  obtain ⟨h1, h2, h3, h4, h5⟩ := h
  refine ⟨?_, ?_, fun p hp => ⟨?_, ?_, ?_⟩, fun c hc => ?_, fun p hp => ?_⟩
  · rw [hq a (by omega) (by omega)]; exact h1
  · rw [hq a (by omega) (by omega)]; exact h2
  · rw [hq (a + 1) (by omega) (by omega)]; exact (h3 p hp).1
  · rw [hq (a + 2) (by omega) (by omega)]; exact (h3 p hp).2.1
  · rw [hq (a + 3) (by omega) (by omega)]; exact (h3 p hp).2.2
  · rw [hq (a + 4) (by omega) (by omega)]; exact h4 c hc
  · rw [hq (a + 5) (by omega) (by omega)]; exact h5 p hp
/-- the places that a packet's parts take -/
def PkIn (P : Pk) : Prop := pN P ≤ 8 ∧ pW P ≤ 8 ∧ (∀ p, p < pN P → pC P p < pW P ∧ pL P p < 8) ∧ ∀ p q, p < pN P → q < pN P → pC P p = pC P q → pL P p = pL P q → p = q
/-- part after part laid down -/
def layAll (I : Nat → Nat → Int32) (a : Nat) (c q : Nat → Nat) (u : Nat → Bool) : Nat → Nat → Nat → Int32
  | 0 => I
  | k + 1 => pkLay (layAll I a c q u k) a k (c k) (q k) (u k)
section LAY
variable {γ : rG} {l : Launch} {sh : Nat × (Nat → Nat) × (Nat → Nat)} {I : Nat → Nat → Int32} {J : Nat → Nat → Int64} {R : Nat → Nat → Option Nat} {a b n : Nat} {c q : Nat → Nat} {u : Nat → Bool}
theorem layAll_row (h : b < a ∨ a + 6 ≤ b) : ∀ k, layAll I a c q u k b = I b := by
  intro k
  induction k with
  | zero => rfl
  | succ k ih => simp only [layAll]; rw [pkLay_row h]; exact ih
theorem layAll_own : ∀ k, layAll I a c q u k a = I a := by
  intro k
  induction k with
  | zero => rfl
  | succ k ih =>
    simp only [layAll]
    unfold pkLay
    rw [up_ne (by omega), up_ne (by omega), up_ne (by omega), up_ne (by omega), up_ne (by omega)]
    exact ih
theorem layAll_parts : ∀ k p, p < k → layAll I a c q u k (a + 1) p = nI (c p) ∧ layAll I a c q u k (a + 2) p = nI (q p) ∧ layAll I a c q u k (a + 3) p = nz (u p) := by
  intro k
  induction k with
  | zero => intro p hp; omega
  | succ k ih =>
    intro p hp
    simp only [layAll, pkLay, up_at]
    by_cases hk : p = k
    · subst hk
      simp
    · have := ih p (by omega)
      simp [hk, this]
theorem layAll_high (h0 : ∀ j, j < 8 → I (a + 4) j = 0) : ∀ k j, j < 8 → layAll I a c q u k (a + 4) j = nI (cnt c j k) := by
  intro k
  induction k with
  | zero => intro j hj; exact (h0 j hj).trans nI_0.symm
  | succ k ih =>
    intro j hj
    simp only [layAll, pkLay, up_at, cnt]
    by_cases hk : c k = j
    · subst hk
      simp [ih _ hj, nI_1]
    · have hk2 : ¬ j = c k := fun z => hk z.symm
      simp [hk, hk2, ih j hj]
theorem layAll_piles (hq : ∀ p, p < n → q p < 8) (hi : ∀ p r, p < n → r < n → c p = c r → q p = q r → p = r) : ∀ k, k ≤ n → ∀ p, p < k → layAll I a c q u k (a + 5) (8 * c p + q p) = nI p := by
  intro k
  induction k with
  | zero => intro _ p hp; omega
  | succ k ih =>
    intro hk p hp
    simp only [layAll, pkLay, up_at]
    by_cases he : p = k
    · subst he
      simp
    · have hne : ¬ (8 * c p + q p = 8 * c k + q k) := by
        intro z
        have q1 := hq p (by omega)
        have q2 := hq k (by omega)
        exact he (hi p k (by omega) (by omega) (by omega) (by omega))
      simp [hne, ih (by omega) p (by omega)]
theorem pkBegin_high {p w : Int32} : ∀ j, j < 8 → pkBegin I a p w (a + 4) j = 0 := by
  intro j hj
  simp [pkBegin, fillN, hj]
theorem pkBegin_own {p w : Int32} : pkBegin I a p w a 0 = p ∧ pkBegin I a p w a 1 = w := by
  simp [pkBegin, fillN, up_at]
/-- a begun packet with its parts laid down holds them -/
theorem PkC_lay {P : Pk} (hP : PkIn P) : PkC (layAll (pkBegin I a (nI (pN P)) (nI (pW P))) a (pC P) (pL P) (pU P) (pN P)) a P := by
  obtain ⟨h1, h2, h3, h4⟩ := hP
  refine ⟨?_, ?_, layAll_parts _, layAll_high pkBegin_high _, layAll_piles (fun p hp => (h3 p hp).2) h4 _ (Nat.le_refl _)⟩
  · rw [layAll_own]; exact pkBegin_own.1
  · rw [layAll_own]; exact pkBegin_own.2
theorem pkFlat_layAll : ∀ k, pkFlat I a k = layAll I a (fun p => p) (fun _ => 0) (fun _ => true) k := by
  intro k
  induction k with
  | zero => rfl
  | succ k ih => simp only [pkFlat, layAll, ih]
/-! copy -/
theorem copy_loop {P : Pk} (hA : At2 sh R a) (hB : At2 sh R b) (hab : b + 6 ≤ a ∨ a + 6 ≤ b) (hP : PkIn P) (hC : PkC I b P) : ∀ j k, k + j = pN P → rV γ l m_X2_copy 0 0 14 [some (.ref a), some (.ref b), some (.int (nI k))] [] (sh, layAll (pkBegin I a (nI (pN P)) (nI (pW P))) a (pC P) (pL P) (pU P) k, J, R) (sh, layAll (pkBegin I a (nI (pN P)) (nI (pW P))) a (pC P) (pL P) (pU P) (pN P), J, R) none := by
  have h8 := hP.1
  have hN : ∀ k, layAll (pkBegin I a (nI (pN P)) (nI (pW P))) a (pC P) (pL P) (pU P) k a 0 = nI (pN P) := fun k => by rw [layAll_own]; exact pkBegin_own.1
  have hb : ∀ k r, b ≤ r → r < b + 6 → layAll (pkBegin I a (nI (pN P)) (nI (pW P))) a (pC P) (pL P) (pU P) k r = I r := fun k r h1 h2 => by rw [layAll_row (by omega), pkBegin_row (by omega)]
  intro j
  induction j with
  | zero =>
    intro k hk
    have e : k = pN P := by omega
    subst e
    have hg : layAll (pkBegin I a (nI (pN P)) (nI (pW P))) a (pC P) (pL P) (pU P) (pN P) a 0 ≤ nI (pN P) := by rw [hN]; exact nI_le (Nat.le_refl _) (by omega)
    exact b_X2_copy_14 (I6 := I) hA hB (fun _ => ⟨rfl, rfl⟩) (fun z => absurd hg z) (fun z => absurd hg z) (fun z => absurd hg z) (fun z => absurd hg z) (fun z => absurd hg z)
  | succ j ih =>
    intro k hk
    have hg : ¬ layAll (pkBegin I a (nI (pN P)) (nI (pW P))) a (pC P) (pL P) (pU P) k a 0 ≤ nI k := by rw [hN]; exact nI_ge (by omega) (by omega)
    have hv : vp_in (nI k) 8 := vp_in_nI (by omega) (by decide)
    obtain ⟨q1, q2, q3⟩ := hC.2.2.1 k (by omega)
    obtain ⟨r1, r2⟩ := hP.2.2.1 k (by omega)
    refine b_X2_copy_14 (I6 := layAll (pkBegin I a (nI (pN P)) (nI (pW P))) a (pC P) (pL P) (pU P) (k + 1)) hA hB (fun z => absurd z hg) (fun _ => hv) (fun _ => hv) (fun _ => hv) (fun _ => ?_) (fun _ => ?_)
    · rw [nI_clamp (by omega), hb k (b + 1) (by omega) (by omega), hb k (b + 2) (by omega) (by omega), hb k (b + 3) (by omega) (by omega), q1, q2, q3]
      have := hP.2.1
      exact ct_lay hA (by omega) (by omega) r2
    · rw [nI_1]
      exact ih (k + 1) (by omega)
theorem ct_copy {P : Pk} (hA : At2 sh R a) (hB : At2 sh R b) (hab : b + 6 ≤ a ∨ a + 6 ≤ b) (hP : PkIn P) (hC : PkC I b P) : rMet γ l m_X2_copy [.ref a, .ref b] (sh, I, J, R) (sh, layAll (pkBegin I a (nI (pN P)) (nI (pW P))) a (pC P) (pL P) (pU P) (pN P), J, R) none := by
  refine e_X2_copy (b_X2_copy_0 hA hB (ct_begin hA) ?_)
  rw [hC.1, hC.2.1]
  exact copy_loop hA hB hab hP hC (pN P) 0 (by omega)
/-! heights and what lies at a place -/
/-- the height of a column, by a number that may be no column -/
def hgt (P : Pk) (x : Int32) : Int32 := if ¬ x < 0 ∧ x < nI (pW P) then nI (cnt (pC P) x.toNatClampNeg (pN P)) else -1
theorem ct_heightOf {P : Pk} {x : Int32} (hA : At2 sh R a) (hP : PkIn P) (hC : PkC I a P) : rMet γ l m_X2_heightOf [.ref a, .int x] (sh, I, J, R) (sh, I, J, R) (some (.int (hgt P x))) := by
  have h8 := hP.2.1
  have key : ¬ x < 0 → x < nI (pW P) → ∃ j : Nat, j < pW P ∧ x = nI j := by
    intro z1 z2
    obtain ⟨j, hj, rfl⟩ := nI_of z1
    exact ⟨j, (nI_ltI hj (by omega)).mp z2, rfl⟩
  refine e_X2_heightOf (b_X2_heightOf_0 hA (fun z => ?_) (fun z1 z2 => ?_) (fun z1 z2 => ?_) (fun z1 z2 => ?_))
  · simp [hgt, z]
  · rw [hC.2.1] at z2
    obtain ⟨j, hj, rfl⟩ := key z1 z2
    exact vp_in_nI (by omega) (by decide)
  · rw [hC.2.1] at z2
    obtain ⟨j, hj, rfl⟩ := key z1 z2
    rw [nI_clamp (by omega), hC.2.2.2.1 j (by omega)]
    simp only [hgt, if_pos (And.intro z1 z2), nI_clamp (show j < 2 ^ 31 by omega)]
    exact ⟨trivial, trivial⟩
  · rw [hC.2.1] at z2
    simp [hgt, z1, z2]
end LAY
