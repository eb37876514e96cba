/-! ===== packets: how the model holds them ===== -/
/-- the model's packet number q -/
def PkM (I : Nat → Nat → Int32) (a q : Nat) (P : Pk) : Prop :=
  I a 39 = nI (pN P) ∧ I (a + 25) q = nI (pW P) ∧ ∀ p, p < pN P → I (a + 26) (8 * q + p) = nI (pC P p) ∧ I (a + 27) (8 * q + p) = nI (pL P p) ∧ I (a + 28) (8 * q + p) = nz (pU P p)
theorem PkM.loc {I I' : Nat → Nat → Int32} {a q : Nat} {P : Pk} (h : PkM I a q P) (h8 : pN P ≤ 8) (h0 : I' a 39 = I a 39) (h1 : I' (a + 25) q = I (a + 25) q) (hq : ∀ b j, (b = a + 26 ∨ b = a + 27 ∨ b = a + 28) → 8 * q ≤ j → j < 8 * q + 8 → I' b j = I b j) : PkM I' a q P := by
  refine ⟨h0.trans h.1, h1.trans h.2.1, fun p hp => ⟨?_, ?_, ?_⟩⟩
  · rw [hq _ _ (by simp) (by omega) (by omega)]; exact (h.2.2 p hp).1
  · rw [hq _ _ (by simp) (by omega) (by omega)]; exact (h.2.2 p hp).2.1
  · rw [hq _ _ (by simp) (by omega) (by omega)]; exact (h.2.2 p hp).2.2
/-- how many of the first k lie where y says -/
def cntY (f : Nat → Nat) (y : Int32) : Nat → Nat
  | 0 => 0
  | k + 1 => cntY f y k + (if nI (f k) = y then 1 else 0)
theorem cntY_nat {f : Nat → Nat} {c : Nat} (hc : c < 2 ^ 31) : ∀ k, (∀ p, p < k → f p < 2 ^ 31) → cntY f (nI c) k = cnt f c k := by
  intro k
  induction k with
  | zero => intro _; rfl
  | succ k ih =>
    intro h
    simp only [cntY, cnt]
    rw [ih (fun p hp => h p (by omega))]
    have e := nI_eq (h k (by omega)) hc
    by_cases hh : f k = c
    · rw [if_pos hh, if_pos (e.mpr hh)]
    · rw [if_neg hh, if_neg (fun z => hh (e.mp z))]
theorem cntY_neg {f : Nat → Nat} {y : Int32} (hy : y < 0) : ∀ k, (∀ p, p < k → f p < 2 ^ 31) → cntY f y k = 0 := by
  intro k
  induction k with
  | zero => intro _; rfl
  | succ k ih =>
    intro h
    simp only [cntY]
    rw [ih (fun p hp => h p (by omega)), if_neg (fun z => nI_pos (h k (by omega)) (by rw [z]; exact hy))]
theorem cntY_le {f : Nat → Nat} {y : Int32} : ∀ k, cntY f y k ≤ k := by
  intro k
  induction k with
  | zero => exact Nat.le_refl 0
  | succ k ih => simp only [cntY]; split <;> omega
section MPK
variable {γ : rG} {l : Launch} {sh : Nat × (Nat → Nat) × (Nat → Nat)} {I : Nat → Nat → Int32} {J : Nat → Nat → Int64} {R : Nat → Nat → Option Nat} {a q : Nat} {P : Pk}
theorem e8 (q p : Nat) : ((8 : Int32) * nI q) + nI p = nI (8 * q + p) := by rw [show (8 : Int32) = nI 8 by decide, pk_mul, nI_add]
theorem layersOf_loop {y : Int32} (hA : At9 sh R a) (hq : q < 22) (hN : pN P ≤ 8) (hM : PkM I a q P) : ∀ j k, k + j = pN P → rV γ l m_X9_layersOf 0 0 5 [some (.ref a), some (.int (nI q)), some (.int y), some (.int (nI (cntY (pC P) y k))), some (.int (nI k))] [] (sh, I, J, R) (sh, I, J, R) (some (.int (nI (cntY (pC P) y (pN P))))) := by
  intro j
  induction j with
  | zero =>
    intro k hk
    have e : k = pN P := by omega
    subst e
    have hg : I a 39 ≤ nI (pN P) := by rw [hM.1]; exact nI_le (Nat.le_refl _) (by omega)
    exact b_X9_layersOf_5 hA (fun _ => ⟨rfl, rfl⟩) (fun z => absurd hg z) (fun z => absurd hg z) (fun z => absurd hg z)
  | succ j ih =>
    intro k hk
    have hg : ¬ I a 39 ≤ nI k := by rw [hM.1]; exact nI_ge (by omega) (by omega)
    have hr : I (a + 26) (((8 : Int32) * nI q) + nI k).toNatClampNeg = nI (pC P k) := by rw [e8, nI_clamp (by omega)]; exact (hM.2.2 k (by omega)).1
    have nx := ih (k + 1) (by omega)
    refine b_X9_layersOf_5 hA (fun z => absurd z hg) (fun _ => by rw [e8]; exact vp_in_nI (by omega) (by decide)) (fun _ z => ?_) (fun _ z => ?_)
    · rw [hr] at z
      simp only [cntY, if_neg z, Nat.add_zero] at nx
      rw [nI_1]
      exact nx
    · rw [hr] at z
      simp only [cntY, if_pos z] at nx
      rw [nI_1, nI_1]
      exact nx
theorem ct_layersOf {y : Int32} (hA : At9 sh R a) (hq : q < 22) (hN : pN P ≤ 8) (hM : PkM I a q P) : rMet γ l m_X9_layersOf [.ref a, .int (nI q), .int y] (sh, I, J, R) (sh, I, J, R) (some (.int (nI (cntY (pC P) y (pN P))))) :=
  e_X9_layersOf (b_X9_layersOf_0 hA (layersOf_loop hA hq hN hM (pN P) 0 (by omega)))
theorem ct_turns {x p : Nat} {left : Bool} (hA : At9 sh R a) (hq : q < 22) (hN : pN P ≤ 8) (hM : PkM I a q P) (hp : p < pN P) (hx : x < 2 ^ 31) (hc : pC P p < 2 ^ 31) : rMet γ l m_X9_turns [.ref a, .int (nI q), .int (nI p), .int (nI x), .int (nz left)] (sh, I, J, R) (sh, I, J, R) (some (.int (nz (tMv x left (pC P p))))) := by
  have hr : I (a + 26) (((8 : Int32) * nI q) + nI p).toNatClampNeg = nI (pC P p) := by rw [e8, nI_clamp (by omega)]; exact (hM.2.2 p hp).1
  refine e_X9_turns (b_X9_turns_0 hA (by rw [e8]; exact vp_in_nI (by omega) (by decide)) (fun z1 z2 => ?_) (fun z1 z2 => ?_) (fun z1 z2 => ?_) (fun z1 z2 => ?_))
  · rw [hr, nI_leI hx hc] at z1
    have h1 : ¬ pC P p < x := by omega
    have h2 : left = true := by cases left; exact absurd (by decide) z2; rfl
    simp [tMv, h1, h2, nz]
  · rw [hr, nI_leI hx hc] at z1
    have h1 : ¬ pC P p < x := by omega
    have h2 : left = false := by cases left; rfl; exact absurd z2 (by decide)
    simp [tMv, h1, h2, nz]
  · rw [hr, nI_leI hx hc] at z1
    have h1 : pC P p < x := by omega
    have h2 : left = false := by cases left; rfl; exact absurd (by decide) z2
    simp [tMv, h1, h2, nz]
  · rw [hr, nI_leI hx hc] at z1
    have h1 : pC P p < x := by omega
    have h2 : left = true := by cases left; exact absurd z2 (by decide); rfl
    simp [tMv, h1, h2, nz]
/-- the first of the parts from k on that lies at a place -/
def fndY (f g : Nat → Nat) (c y : Int32) (n : Nat) : Nat → Int32
  | 0 => -1
  | j + 1 => if nI (f (n - (j + 1))) = c ∧ nI (g (n - (j + 1))) = y then nI (n - (j + 1)) else fndY f g c y n j
theorem mpartAt_loop {c y : Int32} (hA : At9 sh R a) (hq : q < 22) (hN : pN P ≤ 8) (hM : PkM I a q P) : ∀ j k, k + j = pN P → rV γ l m_X9_partAt 0 0 3 [some (.ref a), some (.int (nI q)), some (.int c), some (.int y), some (.int (nI k))] [] (sh, I, J, R) (sh, I, J, R) (some (.int (fndY (pC P) (pL P) c y (pN P) j))) := by
  intro j
  induction j with
  | zero =>
    intro k hk
    have e : k = pN P := by omega
    subst e
    have hg : I a 39 ≤ nI (pN P) := by rw [hM.1]; exact nI_le (Nat.le_refl _) (by omega)
    exact b_X9_partAt_3 hA (fun _ => ⟨rfl, rfl⟩) (fun z => absurd hg z) (fun z => absurd hg z) (fun z => absurd hg z) (fun z => absurd hg z) (fun z => absurd hg z)
  | succ j ih =>
    intro k hk
    have hg : ¬ I a 39 ≤ nI k := by rw [hM.1]; exact nI_ge (by omega) (by omega)
    have hr : I (a + 26) (((8 : Int32) * nI q) + nI k).toNatClampNeg = nI (pC P k) := by rw [e8, nI_clamp (by omega)]; exact (hM.2.2 k (by omega)).1
    have hr2 : I (a + 27) (((8 : Int32) * nI q) + nI k).toNatClampNeg = nI (pL P k) := by rw [e8, nI_clamp (by omega)]; exact (hM.2.2 k (by omega)).2.1
    have hv : vp_in (((8 : Int32) * nI q) + nI k) 176 := by rw [e8]; exact vp_in_nI (by omega) (by decide)
    have nx := ih (k + 1) (by omega)
    have ek : pN P - (j + 1) = k := by omega
    simp only [fndY, ek]
    refine b_X9_partAt_3 hA (fun z => absurd z hg) (fun _ => hv) (fun _ z => ?_) (fun _ _ => hv) (fun _ z1 z2 => ?_) (fun _ z1 z2 => ?_)
    · rw [hr] at z
      rw [if_neg (fun w => z w.1), nI_1]
      exact nx
    · rw [hr2] at z2
      rw [if_neg (fun w => z2 w.2), nI_1]
      exact nx
    · rw [hr] at z1
      rw [hr2] at z2
      rw [if_pos ⟨z1, z2⟩]
      exact ⟨rfl, rfl⟩
theorem ct_mpartAt {c y : Int32} (hA : At9 sh R a) (hq : q < 22) (hN : pN P ≤ 8) (hM : PkM I a q P) : rMet γ l m_X9_partAt [.ref a, .int (nI q), .int c, .int y] (sh, I, J, R) (sh, I, J, R) (some (.int (fndY (pC P) (pL P) c y (pN P) (pN P)))) :=
  e_X9_partAt (b_X9_partAt_0 hA (mpartAt_loop hA hq hN hM (pN P) 0 (by omega)))
/-! copies -/
def mCp (I : Nat → Nat → Int32) (a : Nat) (P : Pk) (t : Nat) (k : Nat) : Nat → Nat → Int32 := fun b j =>
  if b = a + 25 ∧ j = t then nI (pW P) else if b = a + 26 ∧ 8 * t ≤ j ∧ j < 8 * t + k then nI (pC P (j - 8 * t)) else if b = a + 27 ∧ 8 * t ≤ j ∧ j < 8 * t + k then nI (pL P (j - 8 * t)) else if b = a + 28 ∧ 8 * t ≤ j ∧ j < 8 * t + k then nz (pU P (j - 8 * t)) else I b j
theorem mCp_0 {t : Nat} : mCp I a P t 0 = up I (a + 25) t (nI (pW P)) := by
  funext b j
  simp only [mCp, up_at]
  by_cases h : b = a + 25 ∧ j = t
  · rw [if_pos h, if_pos h]
  · rw [if_neg h, if_neg h, if_neg (by omega), if_neg (by omega), if_neg (by omega)]
theorem mCp_s {t k : Nat} : up (up (up (mCp I a P t k) (a + 26) (8 * t + k) (nI (pC P k))) (a + 27) (8 * t + k) (nI (pL P k))) (a + 28) (8 * t + k) (nz (pU P k)) = mCp I a P t (k + 1) := by
  funext b j
  simp only [mCp, up_at]
  by_cases hj : j = 8 * t + k
  · subst hj
    have e : 8 * t + k - 8 * t = k := by omega
    rw [e]
    by_cases h1 : b = a + 28
    · subst h1
      simp
    · by_cases h2 : b = a + 27
      · subst h2
        simp
      · by_cases h3 : b = a + 26
        · subst h3
          simp
        · simp [h1, h2, h3]
  · have g : ∀ n : Nat, (b = n ∧ 8 * t ≤ j ∧ j < 8 * t + (k + 1)) ↔ (b = n ∧ 8 * t ≤ j ∧ j < 8 * t + k) := fun n => by omega
    simp only [hj, and_false, if_false, g]
theorem mCp_M {t : Nat} (ht : I a 39 = nI (pN P)) : PkM (mCp I a P t (pN P)) a t P := by
  refine ⟨?_, ?_, fun p hp => ⟨?_, ?_, ?_⟩⟩
  · unfold mCp; rw [if_neg (by omega), if_neg (by omega), if_neg (by omega), if_neg (by omega)]; exact ht
  · unfold mCp; rw [if_pos ⟨rfl, rfl⟩]
  · unfold mCp; rw [if_neg (by omega), if_pos (by omega), show 8 * t + p - 8 * t = p by omega]
  · unfold mCp; rw [if_neg (by omega), if_neg (by omega), if_pos (by omega), show 8 * t + p - 8 * t = p by omega]
  · unfold mCp; rw [if_neg (by omega), if_neg (by omega), if_neg (by omega), if_pos (by omega), show 8 * t + p - 8 * t = p by omega]
theorem copies_loop {t : Nat} (hA : At9 sh R a) (hq : q < 22) (ht : t < 22) (hqt : q ≠ t) (hN : pN P ≤ 8) (hM : PkM I a q P) : ∀ j k, k + j = pN P → rV γ l m_X9_copies 0 0 14 [some (.ref a), some (.int (nI q)), some (.int (nI t)), some (.int (nI k))] [] (sh, mCp I a P t k, J, R) (sh, mCp I a P t (pN P), J, R) none := by
  have own : ∀ k, mCp I a P t k a 39 = nI (pN P) := fun k => by unfold mCp; rw [if_neg (by omega), if_neg (by omega), if_neg (by omega), if_neg (by omega)]; exact hM.1
  intro j
  induction j with
  | zero =>
    intro k hk
    have e : k = pN P := by omega
    subst e
    have hg : mCp I a P t (pN P) a 39 ≤ nI (pN P) := by rw [own]; exact nI_le (Nat.le_refl _) (by omega)
    exact b_X9_copies_14 hA (fun _ => ⟨rfl, rfl⟩) (fun z => absurd hg z) (fun z => absurd hg z) (fun z => absurd hg z) (fun z => absurd hg z) (fun z => absurd hg z) (fun z => absurd hg z) (fun z => absurd hg z)
  | succ j ih =>
    intro k hk
    have hg : ¬ mCp I a P t k a 39 ≤ nI k := by rw [own]; exact nI_ge (by omega) (by omega)
    have v1 : vp_in (((8 : Int32) * nI q) + nI k) 176 := by rw [e8]; exact vp_in_nI (by omega) (by decide)
    have v2 : vp_in (((8 : Int32) * nI t) + nI k) 176 := by rw [e8]; exact vp_in_nI (by omega) (by decide)
    obtain ⟨q1, q2, q3⟩ := hM.2.2 k (by omega)
    have off : ∀ b, mCp I a P t k b (8 * q + k) = if b = a + 25 ∧ 8 * q + k = t then nI (pW P) else I b (8 * q + k) := fun b => by
      unfold mCp
      rw [if_neg (show ¬ (b = a + 26 ∧ 8 * t ≤ 8 * q + k ∧ 8 * q + k < 8 * t + k) by omega), if_neg (show ¬ (b = a + 27 ∧ 8 * t ≤ 8 * q + k ∧ 8 * q + k < 8 * t + k) by omega), if_neg (show ¬ (b = a + 28 ∧ 8 * t ≤ 8 * q + k ∧ 8 * q + k < 8 * t + k) by omega)]
    have o1 : mCp I a P t k (a + 26) (8 * q + k) = nI (pC P k) := by rw [off, if_neg (by omega)]; exact q1
    have o2 : mCp I a P t k (a + 27) (8 * q + k) = nI (pL P k) := by rw [off, if_neg (by omega)]; exact q2
    have o3 : mCp I a P t k (a + 28) (8 * q + k) = nz (pU P k) := by rw [off, if_neg (by omega)]; exact q3
    refine b_X9_copies_14 hA (fun z => absurd z hg) (fun _ => v1) (fun _ => v2) (fun _ => v1) (fun _ => v2) (fun _ => v1) (fun _ => v2) (fun _ => ?_)
    rw [e8, e8, nI_clamp (by omega), nI_clamp (by omega), nI_1, o1]
    have p2 : up (mCp I a P t k) (a + 26) (8 * t + k) (nI (pC P k)) (a + 27) (8 * q + k) = nI (pL P k) := by rw [up_at, if_neg (by omega)]; exact o2
    rw [p2]
    have p3 : up (up (mCp I a P t k) (a + 26) (8 * t + k) (nI (pC P k))) (a + 27) (8 * t + k) (nI (pL P k)) (a + 28) (8 * q + k) = nz (pU P k) := by rw [up_at, if_neg (by omega), up_at, if_neg (by omega)]; exact o3
    rw [p3, nar_nz, mCp_s]
    exact ih (k + 1) (by omega)
theorem ct_copies {t : Nat} (hA : At9 sh R a) (hq : q < 22) (ht : t < 22) (hqt : q ≠ t) (hN : pN P ≤ 8) (hM : PkM I a q P) : rMet γ l m_X9_copies [.ref a, .int (nI q), .int (nI t)] (sh, I, J, R) (sh, mCp I a P t (pN P), J, R) none := by
  refine e_X9_copies (b_X9_copies_0 hA (vp_in_nI hq (by decide)) (vp_in_nI ht (by decide)) ?_)
  rw [nI_clamp (by omega), nI_clamp (by omega), hM.2.1, ← mCp_0]
  exact copies_loop hA hq ht hqt hN hM (pN P) 0 (by omega)
end MPK
