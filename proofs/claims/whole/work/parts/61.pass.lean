/-! ===== does a packet pass through itself: the class ===== -/
noncomputable def bz (p : Prop) : Int32 := nz (@decide p (Classical.propDecidable p))
theorem bz_t {p : Prop} (h : p) : bz p = 1 := by unfold bz; rw [@decide_eq_true p (Classical.propDecidable p) h]; rfl
theorem bz_f {p : Prop} (h : ¬ p) : bz p = 0 := by unfold bz; rw [@decide_eq_false p (Classical.propDecidable p) h]; rfl
theorem bz_0 {p : Prop} : bz p = 0 ↔ ¬ p := by
  by_cases h : p
  · rw [bz_t h]; exact ⟨fun z => absurd z (by decide), fun z => absurd h z⟩
  · rw [bz_f h]; exact ⟨fun _ => h, fun _ => rfl⟩
theorem bz_1 {p : Prop} : bz p = 1 ↔ p := by
  by_cases h : p
  · rw [bz_t h]; exact ⟨fun _ => h, fun _ => rfl⟩
  · rw [bz_f h]; exact ⟨fun z => absurd z (by decide), fun z => absurd z h⟩
theorem bz_eq {p q : Prop} : bz p = bz q ↔ (p ↔ q) := by
  by_cases h : p <;> by_cases h2 : q
  · rw [bz_t h, bz_t h2]; exact ⟨fun _ => ⟨fun _ => h2, fun _ => h⟩, fun _ => rfl⟩
  · rw [bz_t h, bz_f h2]; exact ⟨fun z => absurd z (by decide), fun z => absurd (z.mp h) h2⟩
  · rw [bz_f h, bz_t h2]; exact ⟨fun z => absurd z (by decide), fun z => absurd (z.mpr h2) h⟩
  · rw [bz_f h, bz_f h2]; exact ⟨fun _ => ⟨fun z => absurd z h, fun z => absurd z h2⟩, fun _ => rfl⟩
theorem bz_b {p : Prop} : bz p = 0 ∨ bz p = 1 := by
  by_cases h : p
  · exact Or.inr (bz_t h)
  · exact Or.inl (bz_f h)
theorem bz_c {p q : Prop} (h : p ↔ q) : bz p = bz q := bz_eq.mpr h
def Bt (P : Pk) (i p : Nat) : Prop := ¬ (pL P i < pL P p ↔ pL P (i + 1) < pL P p)
def nearP (P : Pk) (i j : Nat) : Nat := if pC P i = pC P j then j else j + 1
def farP (P : Pk) (i j : Nat) : Nat := if pC P i = pC P j then j + 1 else j
def Clash (P : Pk) (i j : Nat) : Prop := if crs P i then (if crs P j then pC P i = pC P j ∧ ¬ (Bt P i j ↔ Bt P i (j + 1)) else Bt P i (nearP P i j)) else (if crs P j then Bt P j (nearP P j i) else ¬ (pL P i < pL P (nearP P i j) ↔ pL P (i + 1) < pL P (farP P i j)))
def Pass (P : Pk) : Prop := ∃ i j, j < i ∧ i + 1 < pN P ∧ lin P i = lin P j ∧ Clash P i j
section PASS
variable {γ : rG} {l : Launch} {sh : Nat × (Nat → Nat) × (Nat → Nat)} {I : Nat → Nat → Int32} {J : Nat → Nat → Int64} {R : Nat → Nat → Option Nat} {a q : Nat} {P : Pk}
theorem ct_isBetween {i p : Nat} (hA : At2 sh R a) (hP : PkV P) (hC : PkC I a P) (hi : i + 1 < pN P) (hp : p < pN P) : rMet γ l m_X2_isBetween [.ref a, .int (nI i), .int (nI p)] (sh, I, J, R) (sh, I, J, R) (some (.int (bz (Bt P i p)))) := by
  have h8 := hP.2.1
  have e0 : (nI i).toNatClampNeg = i := nI_clamp (by omega)
  have e1 : (nI i + 1).toNatClampNeg = i + 1 := by rw [nI_1]; exact nI_clamp (by omega)
  have e2 : (nI p).toNatClampNeg = p := nI_clamp (by omega)
  have v0 : vp_in (nI i) 8 := vp_in_nI (by omega) (by decide)
  have v1 : vp_in (nI i + 1) 8 := by rw [nI_1]; exact vp_in_nI (by omega) (by decide)
  have v2 : vp_in (nI p) 8 := vp_in_nI (by omega) (by decide)
  have q1 := (hC.2.2.1 i (by omega)).2.1
  have q2 := (hC.2.2.1 (i + 1) hi).2.1
  have q3 := (hC.2.2.1 p hp).2.1
  have b20 : s_X2_isBetween_20 γ l a (nI i) (nI p) (bz (pL P i < pL P p)) (sh, I, J, R) (fun hf r => hf = (sh, I, J, R) ∧ r = some (.int (bz (Bt P i p)))) := by
    refine w_X2_isBetween_20 hA ⟨v1, v2, ?_⟩
    rw [e1, e2, q2, q3, nI_leI (hP.b p hp).2 (hP.b (i + 1) hi).2, bz_0, bz_1]
    refine ⟨fun z => ⟨fun y => ⟨rfl, ?_⟩, fun y => ⟨rfl, ?_⟩⟩, fun z => ⟨fun y => ⟨rfl, ?_⟩, fun y => ⟨rfl, ?_⟩⟩⟩
    · rw [bz_f]; unfold Bt; omega
    · rw [bz_t]; unfold Bt; omega
    · rw [bz_f]; unfold Bt; omega
    · rw [bz_t]; unfold Bt; omega
  refine e_X2_isBetween (rW_pure (w_X2_isBetween_0 hA ⟨v0, v2, ?_⟩))
  rw [e0, e2, q1, q3, nI_leI (hP.b p hp).2 (hP.b i (by omega)).2]
  refine ⟨fun z => ?_, fun z => ?_⟩
  · rw [bz_f (by omega)] at b20; exact b20
  · rw [bz_t (by omega)] at b20; exact b20
theorem ct_clash {i j : Nat} (hA : At2 sh R a) (hP : PkV P) (hC : PkC I a P) (hi : i + 1 < pN P) (hj : j + 1 < pN P) : rMet γ l m_X2_clash [.ref a, .int (nI i), .int (nI j)] (sh, I, J, R) (sh, I, J, R) (some (.int (bz (Clash P i j)))) := by
  have h8 := hP.2.1
  have e0 : (nI i).toNatClampNeg = i := nI_clamp (by omega)
  have e1 : (nI i + 1).toNatClampNeg = i + 1 := by rw [nI_1]; exact nI_clamp (by omega)
  have e2 : (nI j).toNatClampNeg = j := nI_clamp (by omega)
  have v0 : vp_in (nI i) 8 := vp_in_nI (by omega) (by decide)
  have v1 : vp_in (nI i + 1) 8 := by rw [nI_1]; exact vp_in_nI (by omega) (by decide)
  have v2 : vp_in (nI j) 8 := vp_in_nI (by omega) (by decide)
  have q1 := (hC.2.2.1 i (by omega)).1
  have q2 := (hC.2.2.1 j (by omega)).1
  have cI := ct_isCrease (γ := γ) (l := l) (J := J) hA hP hC hi
  have cJ := ct_isCrease (γ := γ) (l := l) (J := J) hA hP hC hj
  have hci := (hP.b i (by omega)).1
  have hcj := (hP.b j (by omega)).1
  have b194 : crs P i = false → crs P j = false → ∀ (n f : Nat) (s0 : Int32), n = nearP P i j → f = farP P i j → s0 = bz (pL P i < pL P n) → s_X2_clash_194 γ l a (nI i) (nI f) s0 (sh, I, J, R) (fun hf r => hf = (sh, I, J, R) ∧ r = some (.int (bz (Clash P i j)))) := by
    intro hi0 hj0 n f s0 hn hf hs
    subst hs
    have hf8 : f < pN P := by rw [hf]; unfold farP; split <;> omega
    have q3 := (hC.2.2.1 f hf8).2.1
    have q4 := (hC.2.2.1 (i + 1) hi).2.1
    have cl : Clash P i j ↔ ¬ (pL P i < pL P n ↔ pL P (i + 1) < pL P f) := by unfold Clash; rw [hi0, hj0, hn, hf]; exact Iff.rfl
    refine w_X2_clash_194 hA ⟨v1, vp_in_nI (by omega) (by decide), ?_⟩
    rw [e1, nI_clamp (by omega), q3, q4, nI_leI (hP.b f hf8).2 (hP.b (i + 1) hi).2, bz_0, bz_1]
    refine ⟨fun z => ⟨fun y => ⟨rfl, ?_⟩, fun y => ⟨rfl, ?_⟩⟩, fun z => ⟨fun y => ⟨rfl, ?_⟩, fun y => ⟨rfl, ?_⟩⟩⟩
    · rw [bz_f]; rw [cl]; omega
    · rw [bz_t]; rw [cl]; omega
    · rw [bz_f]; rw [cl]; omega
    · rw [bz_t]; rw [cl]; omega
  have b171 : crs P i = false → crs P j = false → ∀ (n f : Nat), n = nearP P i j → f = farP P i j → s_X2_clash_171 γ l a (nI i) (nI n) (nI f) (sh, I, J, R) (fun hf r => hf = (sh, I, J, R) ∧ r = some (.int (bz (Clash P i j)))) := by
    intro hi0 hj0 n f hn hf
    have hn8 : n < pN P := by rw [hn]; unfold nearP; split <;> omega
    have q3 := (hC.2.2.1 n hn8).2.1
    have q4 := (hC.2.2.1 i (by omega)).2.1
    refine w_X2_clash_171 hA ⟨v0, vp_in_nI (by omega) (by decide), ?_⟩
    rw [e0, nI_clamp (by omega), q3, q4, nI_leI (hP.b n hn8).2 (hP.b i (by omega)).2]
    exact ⟨fun z => b194 hi0 hj0 n f _ hn hf (by rw [bz_f]; omega), fun z => b194 hi0 hj0 n f _ hn hf (by rw [bz_t]; omega)⟩
  have b54 : (crs P i = false ∨ crs P j = false) → s_X2_clash_54 γ l a (nI i) (nI j) (sh, I, J, R) (fun hf r => hf = (sh, I, J, R) ∧ r = some (.int (bz (Clash P i j)))) := by
    intro hor
    refine w_X2_clash_54 hA ⟨_, cI, fun z => ⟨_, cJ, fun y => ⟨v0, v2, ?_⟩, fun y => ⟨v0, v2, ?_⟩⟩, fun z => ⟨v2, v0, ?_⟩⟩
    · rw [nz_0] at z y
      rw [e0, e2, q1, q2, nI_eq hci hcj]
      refine ⟨fun w => ?_, fun w => ?_⟩
      · refine w_X2_clash_146 hA ⟨fun u => absurd u (by decide), fun _ => w_X2_clash_158 hA ⟨fun u => absurd u (by decide), fun _ => ?_⟩⟩
        rw [nI_1]
        exact b171 z y _ _ (by unfold nearP; rw [if_pos w]) (by unfold farP; rw [if_pos w])
      · refine w_X2_clash_146 hA ⟨fun _ => w_X2_clash_158 hA ⟨fun _ => ?_, fun u => absurd rfl u⟩, fun u => absurd rfl u⟩
        rw [nI_1]
        exact b171 z y _ _ (by unfold nearP; rw [if_neg w]) (by unfold farP; rw [if_neg w])
    · rw [nz_0] at z y
      have y' : crs P j = true := by simpa using y
      have cl : Clash P i j ↔ Bt P j (nearP P j i) := by unfold Clash; rw [z, y']; exact Iff.rfl
      rw [e0, e2, q1, q2, nI_eq hci hcj, nI_1]
      refine ⟨fun w => ⟨_, ct_isBetween hA hP hC hj (by omega), bz_b, rfl, ?_⟩, fun w => ⟨_, ct_isBetween hA hP hC hj (by omega), bz_b, rfl, ?_⟩⟩
      · rw [bz_c cl]; unfold nearP; rw [if_pos w.symm]
      · rw [bz_c cl]; unfold nearP; rw [if_neg (fun u => w u.symm)]
    · rw [nz_0] at z
      have z' : crs P i = true := by simpa using z
      have y : crs P j = false := hor.resolve_left (by rw [z']; decide)
      have cl : Clash P i j ↔ Bt P i (nearP P i j) := by unfold Clash; rw [z', y]; exact Iff.rfl
      rw [e0, e2, q1, q2, nI_eq hcj hci, nI_1]
      refine ⟨fun w => ⟨_, ct_isBetween hA hP hC hi (by omega), bz_b, rfl, ?_⟩, fun w => ⟨_, ct_isBetween hA hP hC hi (by omega), bz_b, rfl, ?_⟩⟩
      · rw [bz_c cl]; unfold nearP; rw [if_pos w.symm]
      · rw [bz_c cl]; unfold nearP; rw [if_neg (fun u => w u.symm)]
  refine e_X2_clash (rW_pure (w_X2_clash_0 hA ⟨_, cI, fun z => b54 (Or.inl (nz_0.mp z)), fun z => ⟨_, cJ, fun y => b54 (Or.inr (nz_0.mp y)), fun y => ⟨v0, v2, ?_⟩⟩⟩))
  rw [nz_0] at z y
  have z' : crs P i = true := by simpa using z
  have y' : crs P j = true := by simpa using y
  have cl : Clash P i j ↔ (pC P i = pC P j ∧ ¬ (Bt P i j ↔ Bt P i (j + 1))) := by unfold Clash; rw [z', y']; exact Iff.rfl
  rw [e0, e2, q1, q2, nI_eq hci hcj, nI_1]
  refine ⟨fun w => ⟨_, ct_isBetween hA hP hC hi (by omega), _, ct_isBetween hA hP hC hi (by omega), fun u => ⟨rfl, ?_⟩, fun u => ⟨rfl, ?_⟩⟩, fun w => ⟨rfl, ?_⟩⟩
  · rw [bz_eq] at u; rw [bz_f]; rw [cl]; exact fun t => t.2 u
  · rw [bz_eq] at u; rw [bz_t]; rw [cl]; exact ⟨w, u⟩
  · rw [bz_f]; rw [cl]; exact fun t => w t.1
theorem lin_31 {i : Nat} (hP : PkV P) (hi : i + 1 < pN P) : lin P i < 2 ^ 31 := by
  have := (hP.2.2.2.2.1 i (by omega)).1
  have := (hP.2.2.2.2.1 (i + 1) (by omega)).1
  have := hP.2.2.2.1
  unfold lin; (repeat' split) <;> omega
theorem pass_in {Q : rHeap → Option Value → Prop} {i : Nat} (hA : At2 sh R a) (hP : PkV P) (hC : PkC I a P) (hi : i + 1 < pN P) (K1 : Pass P → Q (sh, I, J, R) (some (.int 1))) (K0 : (∀ j, j < i → ¬ (lin P i = lin P j ∧ Clash P i j)) → s_X2_passesThrough_2 γ l a (nI (i + 1)) (sh, I, J, R) Q) :
    ∀ n j, j + n = i → (∀ k, k < j → ¬ (lin P i = lin P k ∧ Clash P i k)) → s_X2_passesThrough_14 γ l a (nI i) (nI j) (sh, I, J, R) Q := by
  have h8 := hP.2.1
  intro n
  induction n with
  | zero =>
    intro j hj hb
    refine w_X2_passesThrough_14 hA ⟨fun _ => ?_, fun z => absurd (nI_le (by omega) (by omega)) z⟩
    rw [nI_1]
    exact K0 (fun k hk => hb k (by omega))
  | succ n ih =>
    intro j hj hb
    have nx : ¬ (lin P i = lin P j ∧ Clash P i j) → s_X2_passesThrough_14 γ l a (nI i) (nI j + 1) (sh, I, J, R) Q := by
      intro h
      rw [nI_1]
      refine ih (j + 1) (by omega) (fun k hk => ?_)
      by_cases e : k = j
      · subst e; exact h
      · exact hb k (by omega)
    refine w_X2_passesThrough_14 hA ⟨fun z => absurd z (nI_ge (by omega) (by omega)), fun _ => ⟨_, ct_lineOf hA hP hC hi, _, ct_lineOf hA hP hC (by omega), ?_⟩⟩
    rw [nI_eq (lin_31 hP hi) (lin_31 hP (by omega))]
    refine ⟨fun z => ⟨_, ct_clash hA hP hC hi (by omega), ?_⟩, fun z => nx (fun w => z w.1)⟩
    rw [bz_0]
    exact ⟨fun y => nx (fun w => y w.2), fun y => K1 ⟨i, j, by omega, hi, z, Classical.byContradiction y⟩⟩
theorem pass_out (hA : At2 sh R a) (hP : PkV P) (hC : PkC I a P) : ∀ n i, i + n + 1 = pN P → 1 ≤ i → (∀ k j, k < i → j < k → ¬ (lin P k = lin P j ∧ Clash P k j)) → s_X2_passesThrough_2 γ l a (nI i) (sh, I, J, R) (fun hf r => hf = (sh, I, J, R) ∧ r = some (.int (bz (Pass P)))) := by
  have h8 := hP.2.1
  intro n
  induction n with
  | zero =>
    intro i hi h1 hb
    have hg : I a 0 - 1 ≤ nI i := by rw [hC.1, show (1 : Int32) = nI 1 by decide, pk_sub (by omega)]; exact nI_le (by omega) (by omega)
    refine w_X2_passesThrough_2 hA ⟨fun _ => ⟨rfl, ?_⟩, fun z => absurd hg z⟩
    rw [bz_f]
    intro ⟨k, j, h2, h3, h4⟩
    exact hb k j (by omega) h2 h4
  | succ n ih =>
    intro i hi h1 hb
    have hg : ¬ I a 0 - 1 ≤ nI i := by rw [hC.1, show (1 : Int32) = nI 1 by decide, pk_sub (by omega)]; exact nI_ge (by omega) (by omega)
    refine w_X2_passesThrough_2 hA ⟨fun z => absurd z hg, fun _ => pass_in hA hP hC (by omega) (fun hp => ⟨rfl, by rw [bz_t hp]⟩) (fun h => ih (i + 1) (by omega) (by omega) (fun k j hk hj => ?_)) i 0 (by omega) (fun k hk => by omega)⟩
    by_cases e : k = i
    · subst e; exact h j hj
    · exact hb k j (by omega) hj
theorem ct_passesThrough (hA : At2 sh R a) (hP : PkV P) (hC : PkC I a P) : rMet γ l m_X2_passesThrough [.ref a] (sh, I, J, R) (sh, I, J, R) (some (.int (bz (Pass P)))) := by
  have := hP.1
  exact e_X2_passesThrough (rW_pure (w_X2_passesThrough_0 hA (pass_out hA hP hC (pN P - 2) 1 (by omega) (by omega) (fun k j hk hj => by omega))))
end PASS
