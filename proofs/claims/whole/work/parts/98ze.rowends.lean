/-! ===== the model: rowEnds ===== -/
def soN (N : Nat) (F : Fnd) (P : Pk) : Nat := (soF N F P).length
def sdN (N : Nat) (F : Fnd) : Nat := if diN N F = 0 then 0 else 2000
def frO (N : Nat) (F : Fnd) (P : Pk) (acts : List Nat) (X : List (Nat × Nat)) : Option (List Nat) := if 0 < (fltS N F X).length * soN N F P then some (endL acts (lsl (fltS N F X)) (sdN N F)) else none
theorem soN_eq {N : Nat} {F : Fnd} {P : Pk} : soN N F P = (if fitD N F 0 then 1 else 0) + (if fitD N F (ouM P) then 1 else 0) := by
  unfold soN soF
  cases h1 : fitD N F 0 <;> cases h2 : fitD N F (ouM P) <;> simp [h1, h2]
theorem or_assoc3 {α : Type} {x y z : Option α} : (x.or y).or z = x.or (y.or z) := by cases x <;> rfl
theorem frO_snoc {N : Nat} {F : Fnd} {P : Pk} {acts : List Nat} {X : List (Nat × Nat)} {s : Nat × Nat} (h : fitS N F s.2 = true) (h0 : 0 < soN N F P) : frO N F P acts (X ++ [s]) = (frO N F P acts X).or (some (endL acts s.1 (sdN N F))) := by
  unfold frO
  rw [fltS_snoc, if_pos h, List.length_append, lsl_snoc]
  rw [if_pos (Nat.mul_pos (by simp) h0)]
  by_cases hz : (fltS N F X).length = 0
  · rw [if_pos hz, hz, Nat.zero_mul, if_neg (by omega)]
    rfl
  · rw [if_neg hz, if_pos (Nat.mul_pos (by omega) h0)]
    rfl
theorem frO_no {N : Nat} {F : Fnd} {P : Pk} {acts : List Nat} {X : List (Nat × Nat)} {s : Nat × Nat} (h : fitS N F s.2 = false ∨ soN N F P = 0) : frO N F P acts (X ++ [s]) = frO N F P acts X := by
  unfold frO
  rcases h with h | h
  · rw [fltS_snoc, h]; rfl
  · rw [h, Nat.mul_zero, Nat.mul_zero]; rfl
def LvS (I : Nat → Nat → Int32) (m : Nat) (S : Nat → Prop) : Prop := ∀ y, y < 16384 → I (m + 42) y = bz (S y)
def Frw (m : Nat) : Nat → Nat → Prop := fun b j => Fft m b j ∨ b = m + 42
section ROW
variable {γ : rG} {l : Launch} {sh : Nat × (Nat → Nat) × (Nat → Nat)} {I : Nat → Nat → Int32} {J : Nat → Nat → Int64} {R : Nat → Nat → Option Nat} {m N c q M : Nat} {F : Fnd} {o : Option (List Nat)} {acts : List Nat} {P : Pk}
/-- what the endings rest on -/
def FxI (I : Nat → Nat → Int32) (m N q : Nat) (F : Fnd) (P : Pk) (acts : List Nat) : Prop := I m 39 = nI N ∧ FdM I m N F ∧ (I m 68 = nI acts.length ∧ acts.length ≤ 3 ∧ LsA I (m + 44) acts) ∧ PkM I m q P
theorem FxI.fr {I' : Nat → Nat → Int32} (h : FxI I m N q F P acts) (h8 : pN P ≤ 8) (hq : Sm (Frw m) I I') : FxI I' m N q F P acts := by
  obtain ⟨h1, h2, ⟨h3, h4, h5⟩, h6⟩ := h
  exact ⟨(hq _ _ (by unfold Frw Fft; omega)).trans h1, h2.loc (fun b j z => hq _ _ (by unfold Frw Fft; omega)), ⟨(hq _ _ (by unfold Frw Fft; omega)).trans h3, h4, fun i hi => (hq _ _ (by unfold Frw Fft; omega)).trans (h5 i hi)⟩, h6.loc h8 (hq _ _ (by unfold Frw Fft; omega)) (hq _ _ (by unfold Frw Fft; omega)) (fun b j z1 z2 z3 => hq _ _ (by unfold Frw Fft; omega))⟩
/-- one slit, without and with soil -/
theorem two_fits {X : List (Nat × Nat)} {s : Nat × Nat} (hA : At9 sh R m) (h8 : N ≤ 8) (hP : PkV P) (hx : FxI I m N q F P acts) (hs1 : s.1 < 2 ^ 31) (hs2 : s.2 < 2 ^ 31) (hS : FtS I m (c + (fltS N F X).length * soN N F P) (o.or (frO N F P acts X))) :
    ∃ I1 I2, rMet γ l m_X9_fits [.ref m, .int (nI s.1), .int (nI s.2), .int 0, .int 0] (sh, I, J, R) (sh, I1, J, R) none ∧ rMet γ l m_X9_fits [.ref m, .int (nI s.1), .int (nI s.2), .int 2000, .int (nI (ouM P))] (sh, I1, J, R) (sh, I2, J, R) none ∧ FtS I2 m (c + (fltS N F (X ++ [s])).length * soN N F P) (o.or (frO N F P acts (X ++ [s]))) ∧ Sm (Fft m) I I2 := by
  obtain ⟨x1, x2, ⟨x3, x4, x5⟩, x6⟩ := id hx
  obtain ⟨I1, m1, m2, m3⟩ := ct_fits (γ := γ) (l := l) (J := J) (n := s.1) (ts := s.2) (so := 0) (td := 0) hA h8 x1 x2 x3 x4 x5 hs2 (by decide) hs1 (by decide) hS
  have hsm1 : Sm (Frw m) I I1 := m3.mono (fun b j z => Or.inl z)
  obtain ⟨y1, y2, ⟨y3, y4, y5⟩, y6⟩ := hx.fr hP.2.1 hsm1
  obtain ⟨I2, m4, m5, m6⟩ := ct_fits (γ := γ) (l := l) (J := J) (n := s.1) (ts := s.2) (so := 2000) (td := ouM P) hA h8 y1 y2 y3 y4 y5 hs2 (ouM_31 hP) hs1 (by decide) m2
  refine ⟨I1, I2, m1, m4, ?_, m3.tr m6⟩
  cases hf : fitS N F s.2 with
  | false =>
    have e1 : (fltS N F (X ++ [s])).length = (fltS N F X).length := by rw [fltS_snoc, hf]; rfl
    rw [e1, frO_no (Or.inl hf)]
    simp only [hf, Bool.false_and, Bool.false_eq_true, if_false, Nat.add_zero] at m5
    exact m5
  | true =>
    have e1 : (fltS N F (X ++ [s])).length * soN N F P = (fltS N F X).length * soN N F P + soN N F P := by
      rw [fltS_snoc, hf, if_pos rfl, List.length_append, Nat.add_mul, List.length_singleton, Nat.one_mul]
    rw [e1]
    have hso := soN_eq (N := N) (F := F) (P := P)
    have h0 := fitD_0 (N := N) (F := F)
    simp only [hf, Bool.true_and] at m5
    cases hd0 : fitD N F 0 with
    | true =>
      have hdi : diN N F = 0 := by rw [hd0] at h0; exact of_decide_eq_true h0.symm
      have hsd : sdN N F = 0 := by unfold sdN; rw [if_pos hdi]
      rw [hd0] at m5 hso
      have hpos : 0 < soN N F P := by rw [hso]; simp only [if_true]; omega
      rw [frO_snoc hf hpos, hsd]
      cases hd1 : fitD N F (ouM P) with
      | true =>
        rw [hd1] at m5 hso
        simp only [if_true] at m5 hso
        rw [hso, show c + ((fltS N F X).length * (1 + 1) + (1 + 1)) = c + (fltS N F X).length * (1 + 1) + 1 + 1 by omega, ← or_assoc3]
        rw [hso] at m5
        have e2 : (((o.or (frO N F P acts X)).or (some (endL acts s.1 0))).or (some (endL acts s.1 2000))) = (o.or (frO N F P acts X)).or (some (endL acts s.1 0)) := by
          cases o.or (frO N F P acts X) <;> rfl
        rw [e2] at m5
        exact m5
      | false =>
        rw [hd1] at m5 hso
        simp only [if_true, Bool.false_eq_true, if_false, Nat.add_zero] at m5 hso
        rw [hso, ← or_assoc3]
        rw [hso] at m5
        exact m5
    | false =>
      have hdi : ¬ diN N F = 0 := by rw [hd0] at h0; exact of_decide_eq_false h0.symm
      have hsd : sdN N F = 2000 := by unfold sdN; rw [if_neg hdi]
      rw [hd0] at m5 hso
      cases hd1 : fitD N F (ouM P) with
      | true =>
        rw [hd1] at m5 hso
        simp only [if_true, Bool.false_eq_true, if_false, Nat.add_zero, Nat.zero_add] at m5 hso
        rw [frO_snoc hf (by rw [hso]; decide), hsd, hso, ← or_assoc3]
        rw [hso] at m5
        exact m5
      | false =>
        rw [hd1] at m5 hso
        simp only [Bool.false_eq_true, if_false, Nat.add_zero] at m5 hso
        rw [frO_no (Or.inr hso), hso]
        rw [hso] at m5
        exact m5
theorem LvS.fr {I I' : Nat → Nat → Int32} {m : Nat} {S : Nat → Prop} (h : LvS I m S) (hq : Sm (Fft m) I I') : LvS I' m S := fun y hy => (hq _ _ (by unfold Fft; omega)).trans (h y hy)
theorem ct_rowEnds {S : Nat → Prop} (hA : At9 sh R m) (hq : q < 22) (h8 : N ≤ 8) (hN : pN P = N) (hP : PkV P) (hx : FxI I m N q F P acts) (h64 : I m 64 = nI (ckN N F)) (h65 : I m 65 = nI (crF N F)) (hMM : M < 2 ^ 14) (hS : FtS I m c o) (hL : LvS I m S) :
    ∃ I', rMet γ l m_X9_rowEnds [.ref m, .int (nI q), .int (nI M)] (sh, I, J, R) (sh, I', J, R) none ∧ (FtS I' m (c + if M &&& ckN N F = crF N F then (slF N F P).length * soN N F P else 0) (if M &&& ckN N F = crF N F then o.or (frO N F P acts (slO P)) else o) ∧ LvS I' m (fun y => S y ∨ y = M) ∧ Sm (Frw m) I I') := by
  obtain ⟨b1, b2, b3, b4, b5, b6⟩ := sk_31 N F h8
  have hW8 := hP.2.2.2.1
  generalize hI0 : up I (m + 42) M (vp_nar .boolean 1) = I0
  have fr0 : ∀ b j, ¬ (b = m + 42 ∧ j = M) → I0 b j = I b j := fun b j z => by rw [← hI0, up_at, if_neg z]
  have sm0 : Sm (Frw m) I I0 := fun b j z => fr0 b j (fun y => z (Or.inr y.1))
  have hL0 : LvS I0 m (fun y => S y ∨ y = M) := by
    intro y hy
    by_cases e : y = M
    · subst e
      rw [← hI0, up_at, if_pos ⟨rfl, rfl⟩, bz_t (Or.inr rfl)]
      decide
    · rw [fr0 _ _ (fun z => e z.2), hL y hy]
      exact bz_c ⟨Or.inl, fun z => z.resolve_right e⟩
  have hS0 : FtS I0 m c o := hS.loc (fr0 _ _ (by omega)) (fr0 _ _ (by omega)) (fun j => fr0 _ _ (by omega))
  have hx0 : FxI I0 m N q F P acts := hx.fr hP.2.1 sm0
  suffices hh : s_X9_rowEnds_0 γ l m (nI q) (nI M) (sh, I, J, R) (fun hf v => ∃ I', hf = (sh, I', J, R) ∧ v = none ∧ (FtS I' m (c + if M &&& ckN N F = crF N F then (slF N F P).length * soN N F P else 0) (if M &&& ckN N F = crF N F then o.or (frO N F P acts (slO P)) else o) ∧ LvS I' m (fun y => S y ∨ y = M) ∧ Sm (Frw m) I I')) by
    obtain ⟨I', q1, q2⟩ := rW_ex hh
    exact ⟨I', e_X9_rowEnds q1, q2⟩
  refine w_X9_rowEnds_0 hA ⟨vp_in_nI (by omega) (by decide), ?_⟩
  rw [nI_clamp (by omega), hI0, fr0 m 64 (by omega), fr0 m 65 (by omega), h64, h65, and_eq (by omega) (by omega) (by omega), beq_iff_eq]
  refine ⟨fun z => ?_, fun z => ?_⟩
  · rw [if_pos z, if_pos z]
    have m0 := ct_outer (γ := γ) (l := l) (J := J) hA hq hP hx0.2.2.2
    have col : ∀ k, k < pW P → (∀ I2, FtS I2 m (c + (fltS N F ((0, 0) :: slC P (k + 1))).length * soN N F P) (o.or (frO N F P acts ((0, 0) :: slC P (k + 1)))) → LvS I2 m (fun y => S y ∨ y = M) → Sm (Frw m) I I2 → s_X9_rowEnds_48 γ l m (nI q) (nI (ouM P)) (nI (k + 1)) (sh, I2, J, R) (fun hf v => ∃ I', hf = (sh, I', J, R) ∧ v = none ∧ (FtS I' m (c + (slF N F P).length * soN N F P) (o.or (frO N F P acts (slO P))) ∧ LvS I' m (fun y => S y ∨ y = M) ∧ Sm (Frw m) I I'))) → ∀ j t I1, t + j = cnt (pC P) k (pN P) → FtS I1 m (c + (fltS N F ((0, 0) :: slC P k ++ slK P k t)).length * soN N F P) (o.or (frO N F P acts ((0, 0) :: slC P k ++ slK P k t))) → LvS I1 m (fun y => S y ∨ y = M) → Sm (Frw m) I I1 → s_X9_rowEnds_62 γ l m (nI q) (nI (ouM P)) (nI k) (nI (t + 1)) (sh, I1, J, R) (fun hf v => ∃ I', hf = (sh, I', J, R) ∧ v = none ∧ (FtS I' m (c + (slF N F P).length * soN N F P) (o.or (frO N F P acts (slO P))) ∧ LvS I' m (fun y => S y ∨ y = M) ∧ Sm (Frw m) I I')) := by
      intro k hk K j
      have hc8 := cnt_le (pC P) k (pN P)
      have hp8 := hP.2.1
      induction j with
      | zero =>
        intro t I1 ht h1 h2 h3
        have hx1 := hx.fr hP.2.1 h3
        have ml := ct_layersOf (γ := γ) (l := l) (J := J) (y := nI k) hA hq hP.2.1 hx1.2.2.2
        rw [own_eq hP hk] at ml
        refine w_X9_rowEnds_62 hA ⟨_, ml, fun _ => ?_, fun y => absurd (nI_lt (by omega) (by omega)) y⟩
        rw [nI_1]
        have e : (0, 0) :: slC P k ++ slK P k t = (0, 0) :: slC P (k + 1) := by
          rw [show t = cnt (pC P) k (pN P) by omega]; rfl
        rw [e] at h1
        exact K I1 h1 h2 h3
      | succ j ih =>
        intro t I1 ht h1 h2 h3
        have hx1 := hx.fr hP.2.1 h3
        have ml := ct_layersOf (γ := γ) (l := l) (J := J) (y := nI k) hA hq hP.2.1 hx1.2.2.2
        rw [own_eq hP hk] at ml
        have mh := ct_mhighest (γ := γ) (l := l) (J := J) (c := k) (k := t + 1) hA hq hP hx1.2.2.2 hk (by omega)
        obtain ⟨I2, I3, f1, f2, f3, f4⟩ := two_fits (γ := γ) (l := l) (J := J) (s := (1000 + 10 * k + (t + 1), hiM P k (t + 1))) hA h8 hP hx1 (by show 1000 + 10 * k + (t + 1) < 2 ^ 31; omega) (hiM_31 hP) h1
        refine w_X9_rowEnds_62 hA ⟨_, ml, fun y => absurd y (nI_nlt (by omega) (by omega)), fun _ => ⟨_, mh, ?_⟩⟩
        have en : ((1000 : Int32) + 10 * nI k) + nI (t + 1) = nI (1000 + 10 * k + (t + 1)) := by rw [show (1000 : Int32) = nI 1000 from rfl, show (10 : Int32) = nI 10 from rfl, pk_mul, nI_add, nI_add]
        rw [en, nI_1]
        refine ⟨I2, f1, I3, f2, ih (t + 1) I3 (by omega) ?_ (h2.fr f4) (h3.tr (f4.mono (fun b j w => Or.inl w)))⟩
        simp only [slK]
        rw [← List.append_assoc]
        exact f3
    have cols : ∀ j k I1, k + j = pW P → FtS I1 m (c + (fltS N F ((0, 0) :: slC P k)).length * soN N F P) (o.or (frO N F P acts ((0, 0) :: slC P k))) → LvS I1 m (fun y => S y ∨ y = M) → Sm (Frw m) I I1 → s_X9_rowEnds_48 γ l m (nI q) (nI (ouM P)) (nI k) (sh, I1, J, R) (fun hf v => ∃ I', hf = (sh, I', J, R) ∧ v = none ∧ (FtS I' m (c + (slF N F P).length * soN N F P) (o.or (frO N F P acts (slO P))) ∧ LvS I' m (fun y => S y ∨ y = M) ∧ Sm (Frw m) I I')) := by
      intro j
      induction j with
      | zero =>
        intro k I1 hk h1 h2 h3
        have ek : k = pW P := by omega
        subst ek
        have hx1 := hx.fr hP.2.1 h3
        refine w_X9_rowEnds_48 hA ⟨vp_in_nI hq (by decide), ?_⟩
        rw [nI_clamp (by omega), hx1.2.2.2.2.1]
        exact ⟨fun _ => ⟨I1, rfl, rfl, h1, h2, h3⟩, fun w => absurd (nI_le (Nat.le_refl _) (by omega)) w⟩
      | succ j ih =>
        intro k I1 hk h1 h2 h3
        have hx1 := hx.fr hP.2.1 h3
        refine w_X9_rowEnds_48 hA ⟨vp_in_nI hq (by decide), ?_⟩
        rw [nI_clamp (by omega), hx1.2.2.2.2.1]
        refine ⟨fun w => absurd w (nI_ge (by omega) (by omega)), fun _ => ?_⟩
        have := col k (by omega) (fun I2 q1 q2 q3 => ih (k + 1) I2 (by omega) q1 q2 q3) (cnt (pC P) k (pN P)) 0 I1 (by omega) (by
          simp only [slK, List.append_nil]
          exact h1) h2 h3
        exact this
    have hS1 : FtS I0 m (c + (fltS N F []).length * soN N F P) (o.or (frO N F P acts [])) := by
      have e1 : (fltS N F []).length * soN N F P = 0 := by
        show 0 * _ = 0
        omega
      have e2 : frO N F P acts [] = none := by
        unfold frO
        rw [e1]
        rfl
      rw [e1, e2]
      cases o <;> exact hS0
    obtain ⟨I2, I3, f1, f2, f3, f4⟩ := two_fits (γ := γ) (l := l) (J := J) (s := (0, 0)) (X := []) hA h8 hP hx0 (by decide) (by decide) hS1
    exact ⟨_, m0, I2, f1, I3, f2, cols (pW P) 0 I3 (by omega) f3 (hL0.fr f4) (sm0.tr (f4.mono (fun b j w => Or.inl w)))⟩
  · rw [if_neg z, if_neg z]
    exact ⟨I0, rfl, rfl, hS0, hL0, sm0⟩
end ROW
