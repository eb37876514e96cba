/-! ===== pair: sheet, place ===== -/
def flatP (N : Nat) : Pk := (N, N, (fun p => p), (fun _ => 0), fun _ => true)
theorem cnt_id (c : Nat) : ∀ k, cnt (fun p => p) c k = if c < k then 1 else 0 := by
  intro k
  induction k with
  | zero => simp [cnt]
  | succ k ih =>
    simp only [cnt, ih]
    by_cases h : k = c
    · subst h; simp
    · rw [if_neg h]
      by_cases h2 : c < k
      · rw [if_pos h2, if_pos (by omega)]
      · rw [if_neg h2, if_neg (by omega)]
theorem flat_V {N : Nat} (h : 2 ≤ N ∧ N ≤ 8) : PkV (flatP N) := by
  refine ⟨h.1, h.2, by show 1 ≤ N; omega, h.2, fun p hp => ⟨hp, ?_⟩, fun p q _ _ hc _ => hc, fun c hc => ?_, fun p hp => Or.inl ⟨rfl, ?_⟩⟩
  · show 0 < cnt (fun p => p) p N
    rw [cnt_id, if_pos (show p < N from hp)]; exact Nat.one_pos
  · show 0 < cnt (fun p => p) c N
    rw [cnt_id, if_pos (show c < N from hc)]; exact Nat.one_pos
  · show (if true = true then p + 1 = p + 1 else p = p + 1 + 1)
    rw [if_pos rfl]
def newT (N : Nat) : Sht := (N, 0, (fun _ => flatP N), 0, 0, (fun _ => 0), (fun _ => 0), fun _ => (0, 0, 0, 0, 0))
theorem new_V {N n : Nat} (h : 2 ≤ N ∧ N ≤ 8) : V_sheet n (newT N) :=
  ⟨h.1, h.2, Nat.zero_le _, Nat.two_pow_pos _, Nat.two_pow_pos _, fun _ _ => ⟨flat_V h, rfl⟩, fun _ _ => Nat.zero_le _, fun i hi => absurd hi (Nat.not_lt_zero i)⟩
section SOP
variable {γ : rG} {l : Launch} {sh : Nat × (Nat → Nat) × (Nat → Nat)} {I : Nat → Nat → Int32} {J : Nat → Nat → Int64} {R : Nat → Nat → Option Nat} {a m N n q : Nat}
theorem shFlat_row {b : Nat} (h : b < a ∨ a + 15 ≤ b) (j : Nat) : shFlat I a N b j = I b j := by
  unfold shFlat
  rw [pkFlat_layAll, layAll_row (by omega), pkBegin_row (by omega)]
  simp only [fillN, up_at]
  rw [if_neg (by omega), if_neg (by omega), if_neg (by omega), if_neg (by omega), if_neg (by omega), if_neg (by omega)]
theorem C_new (h : 2 ≤ N ∧ N ≤ 8) : C_sheet (shFlat I a N) a (newT N) := by
  have o : ∀ b j, b < a + 9 → shFlat I a N b j = fillN (fillN (up (up (up (up I a 0 (nI N)) a 1 0) a 2 0) a 3 0) (a + 1) 0 8) (a + 2) 0 8 b j := fun b j hb => by
    unfold shFlat
    rw [pkFlat_layAll, layAll_row (by omega), pkBegin_row (by omega)]
  refine ⟨⟨?_, ?_, ?_, ?_⟩, fun p hp => ⟨?_, ?_⟩, fun i hi => ?_, fun i hi => absurd hi (Nat.not_lt_zero i)⟩
  · rw [o _ _ (by omega)]; simp [fillN, up_at]; rfl
  · rw [o _ _ (by omega)]; simp [fillN, up_at]; exact nI_0.symm
  · rw [o _ _ (by omega)]; simp [fillN, up_at]; exact nI_0.symm
  · rw [o _ _ (by omega)]; simp [fillN, up_at]; exact nI_0.symm
  · rw [o _ _ (by omega)]; simp [fillN, up_at, hp]; exact nI_0.symm
  · rw [o _ _ (by omega)]; simp [fillN, hp]; rfl
  · have e : i = 0 := Nat.le_zero.mp hi
    subst e
    show PkC (shFlat I a N) (a + 9) (flatP N)
    unfold shFlat
    rw [pkFlat_layAll]
    exact PkC_lay (P := flatP N) (flat_V h).inn
theorem ct_mflatq (hA : At9 sh R m) (hq : q < 22) (hN : N ≤ 8) (h39 : I m 39 = nI N) : ∃ I', rMet γ l m_X9_flat [.ref m, .int (nI q)] (sh, I, J, R) (sh, I', J, R) none ∧ PkM I' m q (flatP N) ∧ Sm (Ft m q) I I' := by
  have lp : ∀ j k (I1 : Nat → Nat → Int32), k + j = N → I1 (m + 25) q = nI N → (∀ p, p < k → I1 (m + 26) (8 * q + p) = nI p ∧ I1 (m + 27) (8 * q + p) = 0 ∧ I1 (m + 28) (8 * q + p) = 1) → Sm (Ft m q) I I1 → s_X9_flat_12 γ l m (nI q) (nI k) (sh, I1, J, R) (fun hf v => ∃ I', hf = (sh, I', J, R) ∧ v = none ∧ (PkM I' m q (flatP N) ∧ Sm (Ft m q) I I')) := by
    intro j
    induction j with
    | zero =>
      intro k I1 hk h1 h2 hS
      have e : k = N := by omega
      subst e
      have e39 : I1 m 39 = nI k := (hS _ _ (by unfold Ft; omega)).trans h39
      refine w_X9_flat_12 hA ⟨fun _ => ⟨I1, rfl, rfl, ⟨e39, h1, fun p hp => ⟨(h2 p hp).1, (h2 p hp).2.1.trans nI_0.symm, (h2 p hp).2.2⟩⟩, hS⟩, fun z => absurd (by rw [e39]; exact nI_le (Nat.le_refl _) (by omega)) z⟩
    | succ j ih =>
      intro k I1 hk h1 h2 hS
      have e39 : I1 m 39 = nI N := (hS _ _ (by unfold Ft; omega)).trans h39
      have hv : vp_in (nI (8 * q + k)) 176 := vp_in_nI (by omega) (by decide)
      refine w_X9_flat_12 hA ⟨fun z => absurd z (by rw [e39]; exact nI_ge (by omega) (by omega)), fun _ => ?_⟩
      rw [e8, nI_clamp (by omega), nI_1]
      refine ⟨hv, hv, hv, ih (k + 1) _ (by omega) ?_ (fun p hp => ?_) (((hS.up ?_).up ?_).up ?_)⟩
      · rw [up_at, if_neg (by omega), up_at, if_neg (by omega), up_at, if_neg (by omega)]; exact h1
      · by_cases e : p = k
        · subst e
          refine ⟨?_, ?_, ?_⟩
          · rw [up_at, if_neg (by omega), up_at, if_neg (by omega), up_at, if_pos ⟨rfl, rfl⟩]
          · rw [up_at, if_neg (by omega), up_at, if_pos ⟨rfl, rfl⟩]
          · rw [up_at, if_pos ⟨rfl, rfl⟩]; decide
        · obtain ⟨g1, g2, g3⟩ := h2 p (by omega)
          refine ⟨?_, ?_, ?_⟩
          · rw [up_at, if_neg (by omega), up_at, if_neg (by omega), up_at, if_neg (by omega)]; exact g1
          · rw [up_at, if_neg (by omega), up_at, if_neg (by omega), up_at, if_neg (by omega)]; exact g2
          · rw [up_at, if_neg (by omega), up_at, if_neg (by omega), up_at, if_neg (by omega)]; exact g3
      · unfold Ft; omega
      · unfold Ft; omega
      · unfold Ft; omega
  have key : s_X9_flat_0 γ l m (nI q) (sh, I, J, R) (fun hf v => ∃ I', hf = (sh, I', J, R) ∧ v = none ∧ (PkM I' m q (flatP N) ∧ Sm (Ft m q) I I')) := by
    refine w_X9_flat_0 hA ⟨vp_in_nI hq (by decide), ?_⟩
    rw [nI_clamp (by omega), h39]
    have := lp N 0 (up I (m + 25) q (nI N)) (by omega) (by rw [up_at, if_pos ⟨rfl, rfl⟩]) (fun p hp => by omega) (Sm.rf.up (by unfold Ft; omega))
    rw [nI_0] at this
    exact this
  obtain ⟨I', h1, h2⟩ := rW_ex key
  exact ⟨I', e_X9_flat h1, h2⟩
def Psf (b j : Nat) : Prop := Psh b j ∨ Pfd b j
theorem noF_C (h0 : I a 0 = nI N) (hz : ∀ j, 1 ≤ j → j < 7 → I a j = 0) : FdC I a N noF := by
  have z : ∀ k, mkN (fun _ => false) k = 0 := fun k => Nat.eq_of_testBit_eq (fun i => by rw [mkN_bit]; simp)
  have z2 : ∀ (f : Nat → Bool) k, mkN (fun i => false && f i) k = 0 := fun f k => Nat.eq_of_testBit_eq (fun i => by rw [mkN_bit]; simp)
  refine ⟨h0, ?_, ?_, ?_, ?_, ?_, ?_⟩
  · rw [hz 1 (by omega) (by omega)]; show (0 : Int32) = nI (mkN (fun _ => false) _); rw [z, nI_0]
  · rw [hz 2 (by omega) (by omega)]; show (0 : Int32) = nI (mkN (fun j => false && (0 : Nat).testBit (j % 2)) _); rw [z2, nI_0]
  · rw [hz 3 (by omega) (by omega)]; show (0 : Int32) = nI (mkN (fun _ => false) _); rw [z, nI_0]
  · rw [hz 4 (by omega) (by omega)]; show (0 : Int32) = nI (mkN (fun _ => false && false) _); rw [z2, nI_0]
  · rw [hz 5 (by omega) (by omega)]; show (0 : Int32) = nI (mkN (fun _ => false) _); rw [z, nI_0]
  · rw [hz 6 (by omega) (by omega)]; show (0 : Int32) = nI (mkN (fun _ => false && false) _); rw [z2, nI_0]
theorem pc_sheet (hA : At8 sh R 0) (hB : At9 sh R 169) (x : Int32) : ∃ (I1 I2 : Nat → Nat → Int32) (v : Int32), rMet γ l m_X8_sheet [.ref 0, .int x] (sh, I, J, R) (sh, I1, J, R) (some (.int v)) ∧ rMet γ l m_X9_sheet [.ref 169, .int x] (sh, I1, J, R) (sh, I2, J, R) (some (.int v)) ∧ (I2 = I ∨ ∃ N, (2 ≤ N ∧ N ≤ 8) ∧ S_sheet n I2 (newT N) ∧ V_fnd noF ∧ FdC I2 116 N noF ∧ FdM I2 169 N noF ∧ I2 116 7 = 0 ∧ I2 169 59 = 0) ∧ Sm Psf I I2 := by
  have hA0 : At0 sh R 116 := (At8_3 hA).2
  have hA5 : At5 sh R 5 := (At8_2 hA).2
  by_cases g1 : x < 2
  · exact ⟨I, I, 0, e_X8_sheet (rW_pure (w_X8_sheet_0 hA ⟨fun _ => ⟨rfl, rfl⟩, fun z => absurd g1 z⟩)), e_X9_sheet (rW_pure (w_X9_sheet_0 hB ⟨fun _ => ⟨rfl, rfl⟩, fun z => absurd g1 z⟩)), Or.inl rfl, Sm.rf⟩
  by_cases g2 : x ≤ 8
  · have x0 : ¬ x < 0 := fun q => g1 (Int32.lt_trans q (by decide))
    obtain ⟨N, hN8, rfl⟩ := nI_of2 (M := 8) (n := 8) (by decide) x0 g2
    have hN2 : 2 ≤ N := by
      rcases Nat.lt_or_ge N 2 with q | q
      · exact absurd (nI_lt q (by decide)) g1
      · exact q
    have c1 := ct_shFlat (γ := γ) (l := l) (I := I) (J := J) (n := N) hA5 hN8
    have c2 := ct_forget (γ := γ) (l := l) (I := shFlat I 5 N) (J := J) (n := nI N) hA0
    generalize hI1 : fdForget (shFlat I 5 N) 116 (nI N) = I1 at c2
    have o1 : ∀ b j, ¬ (b = 116 ∧ j < 8) → I1 b j = shFlat I 5 N b j := fun b j h => by
      rw [← hI1]
      unfold fdForget
      simp only [up_at]
      rw [if_neg (by omega), if_neg (by omega), if_neg (by omega), if_neg (by omega), if_neg (by omega), if_neg (by omega), if_neg (by omega), if_neg (by omega)]
    have f0 : I1 116 0 = nI N := by rw [← hI1]; simp [fdForget, up_at]
    have fz : ∀ j, 1 ≤ j → j < 8 → I1 116 j = 0 := fun j h1 h2 => by
      rw [← hI1]
      have h : j = 1 ∨ j = 2 ∨ j = 3 ∨ j = 4 ∨ j = 5 ∨ j = 6 ∨ j = 7 := by omega
      rcases h with rfl | rfl | rfl | rfl | rfl | rfl | rfl <;> simp [fdForget, up_at]
    have hCs : C_sheet I1 5 (newT N) := (C_new (I := I) (a := 5) ⟨hN2, hN8⟩).loc (Nat.zero_le _) (fun b j q _ => o1 b j (by unfold Fc at q; omega))
    have s1 : Sm Psf I I1 := fun b j q => by
      unfold Psf Psh Fc Pfd at q
      by_cases hb : b < 5 ∨ 20 ≤ b
      · rw [o1 b j (by omega), shFlat_row (by omega)]
      · by_cases hb5 : b = 5
        · subst hb5
          rw [o1 5 j (by omega)]
          unfold shFlat
          rw [pkFlat_layAll, layAll_row (by omega), pkBegin_row (by omega)]
          simp only [fillN, up_at]
          rw [if_neg (by omega), if_neg (by omega), if_neg (by omega), if_neg (by omega), if_neg (by omega), if_neg (by omega)]
        · exact absurd (Or.inl (Or.inl ⟨by omega, by omega, fun h => absurd h hb5⟩)) q
    -- the model
    obtain ⟨I2, d1, d2, d3⟩ := ct_mflatq (γ := γ) (l := l) (J := J) (I := up (up I1 169 39 (nI N)) 169 48 0) (q := 0) (N := N) hB (by decide) hN8 (by rw [up_at, if_neg (by omega), up_at, if_pos ⟨rfl, rfl⟩])
    have e39 : I2 169 39 = nI N := d2.1
    have e48 : I2 169 48 = 0 := by rw [d3 _ _ (by unfold Ft; omega), up_at, if_pos ⟨rfl, rfl⟩]
    have sA : Sm (fun b j => b = 198 ∨ b = 199 ∨ b = 200 ∨ b = 201 ∨ (b = 169 ∧ (j = 39 ∨ j = 48)) ∨ Ft 169 0 b j) I1 I2 := fun b j q => by
      rw [d3 b j (fun w => q (by simp [w])), up_at, if_neg (fun w => q (by simp [w])), up_at, if_neg (fun w => q (by simp [w]))]
    have k2 : ∀ j k (I3 : Nat → Nat → Int32), k + j = 16 → (∀ i, i < 8 → I3 (169 + 29) i = 0 ∧ I3 (169 + 30) i = 0 ∧ I3 (169 + 31) i = 0) → (∀ f, f < k → I3 (169 + 32) f = 0) → PkM I3 169 0 (flatP N) → I3 169 48 = 0 → Sm (fun b j => b = 198 ∨ b = 199 ∨ b = 200 ∨ b = 201 ∨ (b = 169 ∧ (j = 39 ∨ j = 48)) ∨ Ft 169 0 b j) I1 I3 → s_X9_sheet_65 γ l 169 (nI k) (sh, I3, J, R) (fun hf v => ∃ I', hf = (sh, I', J, R) ∧ v = some (.int 1) ∧ (M_sheet I' 169 (newT N) ∧ FdM I' 169 N noF ∧ I' 169 59 = 0 ∧ Sm (fun b j => Fm 169 b j ∨ b = 207 ∨ b = 208 ∨ b = 209 ∨ (b = 169 ∧ j = 59)) I1 I')) := by
      intro j
      induction j with
      | zero =>
        intro k I3 hk g1 g2 g3 g4 hS3
        have e : k = 16 := by omega
        subst e
        obtain ⟨I4, f1, f2, f3, f4⟩ := ct_forgets (γ := γ) (l := l) (I := I3) (J := J) hB
        have o4 : ∀ b j, ¬ (b = 169 + 38 ∨ b = 169 + 39 ∨ b = 169 + 40 ∨ (b = 169 ∧ j = 59)) → I4 b j = I3 b j := f4
        have z4 : ∀ i, (0 : Nat) / 2 ^ (2 * i) % 4 = 0 := fun i => by simp
        refine w_X9_sheet_65 hB ⟨fun _ => ⟨I4, f1, I4, rfl, rfl, ⟨⟨?_, ?_⟩, fun i hi => ⟨?_, ?_, ?_⟩, fun f hf => ?_, fun i hi => ?_, fun i hi => absurd hi (Nat.not_lt_zero i)⟩, f2 N hN8, f3, fun b j q => ?_⟩, fun z => absurd (by decide) z⟩
        · rw [o4 _ _ (by omega)]; exact g3.1
        · rw [o4 _ _ (by omega), g4]; exact nI_0.symm
        · rw [o4 _ _ (by omega), (g1 i hi).1]; show (0 : Int32) = nI ((0 : Nat) / 2 ^ (2 * i) % 4); rw [z4, nI_0]
        · rw [o4 _ _ (by omega), (g1 i hi).2.1]; exact nI_0.symm
        · rw [o4 _ _ (by omega), (g1 i hi).2.2]; rfl
        · rw [o4 _ _ (by omega), g2 f (by omega)]; show (0 : Int32) = nz ((0 : Nat).testBit f); rw [Nat.zero_testBit]; rfl
        · have e : i = 0 := Nat.le_zero.mp hi
          subst e
          exact g3.loc hN8 (o4 _ _ (by omega)) (o4 _ _ (by omega)) (fun b j q1 _ _ => o4 _ _ (by omega))
        · rw [o4 b j (fun w => q (by omega)), hS3 b j (fun w => q ?_)]
          unfold Ft at w
          left
          unfold Fm
          omega
      | succ j ih =>
        intro k I3 hk g1 g2 g3 g4 hS3
        refine w_X9_sheet_65 hB ⟨fun z => absurd z (nI_ge (show k < 16 by omega) (by decide)), fun _ => ⟨vp_in_nI (by omega) (by decide), ?_⟩⟩
        rw [nI_clamp (by omega), nI_1, show vp_nar .boolean (0 : Int32) = 0 from by decide]
        refine ih (k + 1) _ (by omega) (fun i hi => ⟨?_, ?_, ?_⟩) (fun f hf => ?_) (g3.loc hN8 ?_ ?_ (fun b j q1 _ _ => ?_)) ?_ (hS3.up (by simp))
        · rw [up_at, if_neg (by omega)]; exact (g1 i hi).1
        · rw [up_at, if_neg (by omega)]; exact (g1 i hi).2.1
        · rw [up_at, if_neg (by omega)]; exact (g1 i hi).2.2
        · by_cases e : f = k
          · subst e; rw [up_at, if_pos ⟨rfl, rfl⟩]
          · rw [up_at, if_neg (by omega)]; exact g2 f (by omega)
        · rw [up_at, if_neg (by omega)]
        · rw [up_at, if_neg (by omega)]
        · rw [up_at, if_neg (by omega)]
        · rw [up_at, if_neg (by omega)]; exact g4
    have k1 : ∀ j k (I3 : Nat → Nat → Int32), k + j = 8 → (∀ i, i < k → I3 (169 + 29) i = 0 ∧ I3 (169 + 30) i = 0 ∧ I3 (169 + 31) i = 0) → PkM I3 169 0 (flatP N) → I3 169 48 = 0 → Sm (fun b j => b = 198 ∨ b = 199 ∨ b = 200 ∨ b = 201 ∨ (b = 169 ∧ (j = 39 ∨ j = 48)) ∨ Ft 169 0 b j) I1 I3 → s_X9_sheet_30 γ l 169 (nI k) (sh, I3, J, R) (fun hf v => ∃ I', hf = (sh, I', J, R) ∧ v = some (.int 1) ∧ (M_sheet I' 169 (newT N) ∧ FdM I' 169 N noF ∧ I' 169 59 = 0 ∧ Sm (fun b j => Fm 169 b j ∨ b = 207 ∨ b = 208 ∨ b = 209 ∨ (b = 169 ∧ j = 59)) I1 I')) := by
      intro j
      induction j with
      | zero =>
        intro k I3 hk g1 g3 g4 hS3
        have e : k = 8 := by omega
        subst e
        exact w_X9_sheet_30 hB ⟨fun _ => k2 16 0 I3 (by omega) g1 (fun f hf => by omega) g3 g4 hS3, fun z => absurd (by decide) z⟩
      | succ j ih =>
        intro k I3 hk g1 g3 g4 hS3
        have hv : vp_in (nI k) 8 := vp_in_nI (by omega) (by decide)
        refine w_X9_sheet_30 hB ⟨fun z => absurd z (nI_ge (show k < 8 by omega) (by decide)), fun _ => ⟨hv, hv, hv, ?_⟩⟩
        rw [nI_clamp (by omega), nI_1]
        refine ih (k + 1) _ (by omega) (fun i hi => ?_) (g3.loc hN8 ?_ ?_ (fun b j q1 _ _ => ?_)) ?_ (((hS3.up (by simp)).up (by simp)).up (by simp))
        · by_cases e : i = k
          · subst e
            exact ⟨by rw [up_at, if_neg (by omega), up_at, if_neg (by omega), up_at, if_pos ⟨rfl, rfl⟩], by rw [up_at, if_neg (by omega), up_at, if_pos ⟨rfl, rfl⟩], by rw [up_at, if_pos ⟨rfl, rfl⟩]⟩
          · obtain ⟨w1, w2, w3⟩ := g1 i (by omega)
            exact ⟨by rw [up_at, if_neg (by omega), up_at, if_neg (by omega), up_at, if_neg (by omega)]; exact w1, by rw [up_at, if_neg (by omega), up_at, if_neg (by omega), up_at, if_neg (by omega)]; exact w2, by rw [up_at, if_neg (by omega), up_at, if_neg (by omega), up_at, if_neg (by omega)]; exact w3⟩
        · rw [up_at, if_neg (by omega), up_at, if_neg (by omega), up_at, if_neg (by omega)]
        · rw [up_at, if_neg (by omega), up_at, if_neg (by omega), up_at, if_neg (by omega)]
        · rw [up_at, if_neg (by omega), up_at, if_neg (by omega), up_at, if_neg (by omega)]
        · rw [up_at, if_neg (by omega), up_at, if_neg (by omega), up_at, if_neg (by omega)]; exact g4
    have l0 := k1 8 0 I2 (by omega) (fun i hi => by omega) d2 e48 sA
    rw [nI_0] at l0 d1
    obtain ⟨I4, f1, f2, f3, f4, f5⟩ := rW_ex (w_X9_sheet_0 (x1 := nI N) (I := I1) (J := J) hB ⟨fun z => absurd z g1, fun _ => ⟨fun _ => ⟨I2, d1, l0⟩, fun z => absurd g2 z⟩⟩)
    refine ⟨I1, I4, 1, e_X8_sheet (rW_pure (w_X8_sheet_0 hA ⟨fun z => absurd z g1, fun _ => ⟨fun _ => ⟨_, c1, _, c2, rfl, rfl⟩, fun z => absurd g2 z⟩⟩)), e_X9_sheet f1, Or.inr ⟨N, ⟨hN2, hN8⟩, ⟨new_V ⟨hN2, hN8⟩, hCs.loc (Nat.zero_le _) (fun b j q _ => f5 b j (by unfold Fc at q; unfold Fm; omega)), f2⟩, fun i => Nat.zero_lt_succ 3, noF_C ?_ (fun j h1 h2 => ?_), f3, ?_, f4⟩, s1.tr (f5.mono (fun b j q => ?_))⟩
    · rw [f5 _ _ (by unfold Fm; omega)]; exact f0
    · rw [f5 _ _ (by unfold Fm; omega)]; exact fz j h1 (by omega)
    · rw [f5 _ _ (by unfold Fm; omega)]; exact fz 7 (by omega) (by omega)
    · rcases q with q | q
      · exact Or.inl (Or.inr q)
      · exact Or.inr (by unfold Pfd; omega)
  · exact ⟨I, I, 0, e_X8_sheet (rW_pure (w_X8_sheet_0 hA ⟨fun z => absurd z g1, fun _ => ⟨fun z => absurd z g2, fun _ => ⟨rfl, rfl⟩⟩⟩)), e_X9_sheet (rW_pure (w_X9_sheet_0 hB ⟨fun z => absurd z g1, fun _ => ⟨fun z => absurd z g2, fun _ => ⟨rfl, rfl⟩⟩⟩)), Or.inl rfl, Sm.rf⟩
theorem pc_place (hA : At8 sh R 0) (hB : At9 sh R 169) (h : I 0 7 = I 169 17) : ∃ (v : Int32), rMet γ l m_X8_place [.ref 0] (sh, I, J, R) (sh, I, J, R) (some (.int v)) ∧ rMet γ l m_X9_place [.ref 169] (sh, I, J, R) (sh, I, J, R) (some (.int v)) :=
  ⟨I 169 17, e_X8_place (rW_pure (w_X8_place_0 hA ⟨rfl, by rw [h]⟩)), e_X9_place (rW_pure (w_X9_place_0 hB ⟨rfl, rfl⟩))⟩
end SOP
