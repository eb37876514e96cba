/-! ===== read: the pair ===== -/
section CG
variable {sh : Nat × (Nat → Nat) × (Nat → Nat)} {R R' : Nat → Nat → Option Nat} {a : Nat}
theorem rA_cg {q o kd len : Nat} (h : rA sh R a q o kd len) (hq : R' a q = R a q) : rA sh R' a q o kd len := ⟨hq.trans h.1, h.2⟩
theorem At2_cg (h : At2 sh R a) (hq : ∀ q, R' a q = R a q) : At2 sh R' a := by
  unfold At2 rA at h ⊢
  simp only [hq]
  exact h
theorem At3_cg (h : At3 sh R a) (hq : ∀ q, R' a q = R a q) : At3 sh R' a := by
  unfold At3 rA at h ⊢
  simp only [hq]
  exact h
theorem At6_cg (h : At6 sh R a) (hq : ∀ q, R' a q = R a q) : At6 sh R' a := by
  unfold At6 rA at h ⊢
  simp only [hq]
  exact h
theorem At7_cg (h : At7 sh R a) (hq : ∀ q, R' a q = R a q) : At7 sh R' a := by
  unfold At7 rA at h ⊢
  simp only [hq]
  exact h
theorem At9_cg (h : At9 sh R a) (hq : ∀ q, R' a q = R a q) : At9 sh R' a := by
  unfold At9 rA at h ⊢
  simp only [hq]
  exact h
theorem At5_cg (h : At5 sh R a) (hq : ∀ b q, a ≤ b → b < a + 111 → R' b q = R b q) : At5 sh R' a := by
  obtain ⟨h1, h2, h3, h4, h5, h6, h7, h8, h9, h10⟩ := h
  have e : ∀ q, R' a q = R a q := fun q => hq a q (by omega) (by omega)
  refine ⟨h1, rA_cg h2 (e _), rA_cg h3 (e _), rA_cg h4 (e _), rA_cg h5 (e _), rA_cg h6 (e _), rA_cg h7 (e _), rA_cg h8 (e _), rA_cg h9 (e _), fun i hi => ⟨(hq _ _ (by omega) (by omega)).trans (h10 i hi).1, At2_cg (h10 i hi).2 (fun q => hq _ _ (by omega) (by omega))⟩⟩
theorem At1_cg (h : At1 sh R a) (hq : ∀ b q, a ≤ b → b < a + 18 → R' b q = R b q) : At1 sh R' a := by
  obtain ⟨h1, h2, h3, h4, h5, h6, h7, h8⟩ := h
  have e : ∀ q, R' a q = R a q := fun q => hq a q (by omega) (by omega)
  exact ⟨h1, rA_cg h2 (e _), rA_cg h3 (e _), rA_cg h4 (e _), rA_cg h5 (e _), rA_cg h6 (e _), ⟨(e _).trans h7.1, At2_cg h7.2 (fun q => hq _ _ (by omega) (by omega))⟩, ⟨(e _).trans h8.1, At2_cg h8.2 (fun q => hq _ _ (by omega) (by omega))⟩⟩
theorem At0_cg (h : At0 sh R a) (hq : ∀ b q, a ≤ b → b < a + 26 → R' b q = R b q) : At0 sh R' a := by
  obtain ⟨h1, h2, h3, h4⟩ := h
  have e : ∀ q, R' a q = R a q := fun q => hq a q (by omega) (by omega)
  exact ⟨h1, ⟨(e _).trans h2.1, At1_cg h2.2 (fun b q z1 z2 => hq _ _ (by omega) (by omega))⟩, ⟨(e _).trans h3.1, At2_cg h3.2 (fun q => hq _ _ (by omega) (by omega))⟩, rA_cg h4 (e _)⟩
theorem At8_cg (h : At8 sh R 0) (hq : ∀ b q, ¬ ((b = 3 ∧ q = 5) ∨ (b = 0 ∧ (q = 5 ∨ q = 6))) → R' b q = R b q) : At8 sh R' 0 := by
  obtain ⟨h1, h2, h3, h4, h5, h6⟩ := h
  exact ⟨h1, ⟨(hq _ _ (by omega)).trans h2.1, At6_cg h2.2 (fun q => hq _ _ (by omega))⟩, ⟨(hq _ _ (by omega)).trans h3.1, ⟨h3.2.1, rA_cg h3.2.2 (hq _ _ (by omega))⟩⟩, ⟨(hq _ _ (by omega)).trans h4.1, At5_cg h4.2 (fun b q z1 z2 => hq _ _ (by omega))⟩, ⟨(hq _ _ (by omega)).trans h5.1, At0_cg h5.2 (fun b q z1 z2 => hq _ _ (by omega))⟩, ⟨(hq _ _ (by omega)).trans h6.1, At7_cg h6.2 (fun q => hq _ _ (by omega))⟩⟩
end CG
theorem ansA_le {f : Nat → Int32} {n : Nat} : ansA f n ≤ 2 := by
  unfold ansA fauA
  split
  · split <;> omega
  · split
    · omega
    · split <;> omega
def S_pr2 (sh : Nat × (Nat → Nat) × (Nat → Nat)) (I : Nat → Nat → Int32) (R : Nat → Nat → Option Nat) (p p' s : Nat) (Rs : List Rul) : Prop := S_prc sh I R p s Rs ∧ (R 0 6 = some p' ∧ At3 sh R p' ∧ (p' = 153 ∨ p' = 161) ∧ p ≠ p') ∧ ∃ b nr, PrX I 169 s b nr Rs
def Prd (b j : Nat) : Prop := (b = 0 ∧ j = 7) ∨ b = 1 ∨ b = 3 ∨ b = 4 ∨ (153 ≤ b ∧ b ≤ 168) ∨ (b = 142 ∧ j = 3) ∨ (b = 169 ∧ (j = 2 ∨ j = 4 ∨ (10 ≤ j ∧ j ≤ 19) ∨ j = 32 ∨ j = 36)) ∨ (171 ≤ b ∧ b ≤ 174) ∨ (177 ≤ b ∧ b ≤ 191)
section PRD
variable {γ : rG} {l : Launch} {sh : Nat × (Nat → Nat) × (Nat → Nat)} {I : Nat → Nat → Int32} {J : Nat → Nat → Int64} {R : Nat → Nat → Option Nat} {p p' s : Nat} {Rs : List Rul}
theorem FrM_Prd {s b j : Nat} (hs : s < 2) (h : FrM 169 s b j) : Prd b j := by unfold FrM FtM Ftr at h; unfold Prd; omega
theorem Frt_Prd {p b j : Nat} (hp : p = 153 ∨ p = 161) (h : Frt 3 p 1 b j) : Prd b j := by unfold Frt Frd Fk at h; unfold Prd; omega
theorem pc_read (hA : At8 sh R 0) (hB : At9 sh R 169) (hS : S_tape I) (hP : S_pr2 sh I R p p' s Rs) (hK : KeysM J 169) : ∃ (I1 : Nat → Nat → Int32) (R1 : Nat → Nat → Option Nat) (I2 : Nat → Nat → Int32) (J2 : Nat → Nat → Int64) (v : Int32), rMet γ l m_X8_read [.ref 0] (sh, I, J, R) (sh, I1, J, R1) (some (.int v)) ∧ rMet γ l m_X9_read [.ref 169] (sh, I1, J, R1) (sh, I2, J2, R1) (some (.int v)) ∧ (At8 sh R1 0 ∧ At9 sh R1 169) ∧ S_tape I2 ∧ I2 0 7 = I2 169 17 ∧ KeysM J2 169 ∧ ((S_pr2 sh I2 R1 p p' s Rs ∧ I2 142 3 = I 142 3) ∨ ∃ s' Rs', S_pr2 sh I2 R1 p' p s' Rs' ∧ I2 142 3 = 0) ∧ Sm Prd I I2 ∧ SmJ 175 J J2 := by
  obtain ⟨n, f, hn, t1, t2, t3⟩ := hS
  obtain ⟨⟨hV, ⟨hR5, hA3, hp⟩, hC, h18, hM⟩, ⟨hR6, hA3', hp', hpp⟩, xb, xr, hX⟩ := hP
  have hs := hX.1.1
  obtain ⟨I3, r1, r2, r3, r4⟩ := ct_readText (γ := γ) (l := l) (J := J) (n := n) (f := f) (At8_1 hA).2 (At8_0 hA).2 hA3' (by omega) (by omega) ⟨hn, t1.1, t1.2⟩
  have hA4 : At8 sh (up R 3 5 (some p')) 0 := At8_cg hA (fun b q z => by rw [up_at, if_neg (by omega)])
  have hB4 : At9 sh (up R 3 5 (some p')) 169 := At9_cg hB (fun q => by rw [up_at, if_neg (by omega)])
  have hP4 : At3 sh (up R 3 5 (some p')) p := At3_cg hA3 (fun q => by rw [up_at, if_neg (by omega)])
  have hP4' : At3 sh (up R 3 5 (some p')) p' := At3_cg hA3' (fun q => by rw [up_at, if_neg (by omega)])
  have hR54 : up R 3 5 (some p') 0 5 = some p := by rw [up_at, if_neg (by omega)]; exact hR5
  have hR64 : up R 3 5 (some p') 0 6 = some p' := by rw [up_at, if_neg (by omega)]; exact hR6
  have a2 := ansA_le (f := f) (n := n)
  by_cases h0 : ansA f n = 0
  · -- the new rules stand
    obtain ⟨hC', hV'⟩ := r3 h0
    have hA5 : At8 sh (up (up R 3 5 (some p')) 0 5 (some p')) 0 := At8_cg hA4 (fun b q z => by rw [up_at, if_neg (by omega)])
    have hP5 : At3 sh (up (up R 3 5 (some p')) 0 5 (some p')) p := At3_cg hP4 (fun q => by rw [up_at, if_neg (by omega)])
    have hA6 : At8 sh (up (up (up R 3 5 (some p')) 0 5 (some p')) 0 6 (some p)) 0 := At8_cg hA5 (fun b q z => by rw [up_at, if_neg (by omega)])
    have hB6 : At9 sh (up (up (up R 3 5 (some p')) 0 5 (some p')) 0 6 (some p)) 169 := At9_cg hB4 (fun q => by rw [up_at, if_neg (by omega), up_at, if_neg (by omega)])
    have tC : rMet γ l m_X8_read [.ref 0] (sh, I, J, R) (sh, up (up (up I3 0 7 (-1)) 1 1 0) 142 3 0, J, up (up (up R 3 5 (some p')) 0 5 (some p')) 0 6 (some p)) (some (.int (nI (ansA f n)))) := by
      refine e_X8_read (rW_pure (w_X8_read_0 hA ⟨p', hR6, hA3', I3, _, nI (ansA f n), r1, w_X8_read_15 hA4 ⟨fun _ => w_X8_read_32 hA4 hA4 ⟨p, hR54, hP4, p', hR64, hP4', fun _ => w_X8_read_60 hA5 hP5 (w_X8_read_65 hA6 ⟨rfl, rfl⟩), fun z => absurd (by rw [h0]; rfl) z⟩, fun z => absurd (by rw [h0]; rfl) z⟩⟩))
    generalize hI1 : up (up (up I3 0 7 (-1)) 1 1 0) 142 3 0 = I1 at tC
    generalize hR1 : up (up (up R 3 5 (some p')) 0 5 (some p')) 0 6 (some p) = R1 at tC hA6 hB6
    have fr1 : ∀ b j, ¬ ((b = 0 ∧ j = 7) ∨ (b = 1 ∧ j = 1) ∨ (b = 142 ∧ j = 3)) → I1 b j = I3 b j := by
      intro b j z
      rw [← hI1, up_at, if_neg (by omega), up_at, if_neg (by omega), up_at, if_neg (by omega)]
    have fr0 : ∀ b j, ¬ Prd b j → I1 b j = I b j := by
      intro b j z
      rw [fr1 _ _ (fun y => z (by unfold Prd; omega))]
      exact r4 _ _ (fun y => z (Frt_Prd hp' y))
    have fm : ∀ b j, 169 ≤ b → I1 b j = I b j := by
      intro b j z
      rw [fr1 _ _ (by omega)]
      exact r4 _ _ (by unfold Frt Frd Fk; omega)
    have x11 : I1 1 1 = 0 := by rw [← hI1]; simp [up_at]
    have x07 : I1 0 7 = -1 := by rw [← hI1]; simp [up_at]
    have x142 : I1 142 3 = 0 := by rw [← hI1]; simp [up_at]
    obtain ⟨I2, J2, m1, m2, m3, m4, m5⟩ := ct_mread (γ := γ) (l := l) (J := J) (R := R1) (I := I1) (m := 169) (n := n) (f := f) (s := 1 - s) (v := s) hB6 hn ⟨(fm _ _ (by omega)).trans t2.1, fun j hj => (fm _ _ (by omega)).trans (t2.2 j hj)⟩ t3 hK ((fm _ _ (by omega)).trans h18) hs rfl
    obtain ⟨g1, g2, b2, n2, g3⟩ := m2.2 h0
    refine ⟨I1, R1, I2, J2, _, tC, m1, ⟨hA6, hB6⟩, ⟨0, f, by omega, ⟨?_, fun j hj => absurd hj (by omega)⟩, ⟨m3, fun j hj => absurd hj (by omega)⟩, fun j hj => absurd hj (by omega)⟩, ?_, fun k hk => ?_, Or.inr ⟨1 - s, qn (qA f n (stopK f n)), ⟨⟨hV', ⟨?_, ?_, hp'⟩, ?_, g2, g3.M⟩, ⟨?_, ?_, hp, fun z => hpp z.symm⟩, b2, n2, g3⟩, ?_⟩, fun b j z => ?_, m5⟩
    · rw [m4 _ _ (by unfold FrM FtM Ftr; omega), x11]; rfl
    · rw [m4 _ _ (by unfold FrM FtM Ftr; omega), x07, g1]
    · rw [m5 _ _ (by omega)]; exact hK k hk
    · rw [← hR1, up_at, if_neg (by omega), up_at, if_pos ⟨rfl, rfl⟩]
    · rw [← hR1]
      exact At3_cg hP4' (fun q => by rw [up_at, if_neg (by omega), up_at, if_neg (by omega)])
    · refine hC'.loc (fun b j z1 z2 => ?_)
      rw [m4 _ _ (by unfold FrM FtM Ftr; omega), fr1 _ _ (by omega)]
    · rw [← hR1, up_at, if_pos ⟨rfl, rfl⟩]
    · rw [← hR1]
      exact At3_cg hP4 (fun q => by rw [up_at, if_neg (by omega), up_at, if_neg (by omega)])
    · rw [m4 _ _ (by unfold FrM FtM Ftr; omega), x142]
    · rw [m4 _ _ (fun y => z (FrM_Prd (by omega) y))]
      exact fr0 b j z
  · have hne : nI (ansA f n) ≠ 0 := nI_ne0 (by omega) (by omega)
    have tC : rMet γ l m_X8_read [.ref 0] (sh, I, J, R) (sh, up (up I3 0 7 (I3 1 3)) 1 1 0, J, up R 3 5 (some p')) (some (.int (nI (ansA f n)))) := by
      refine e_X8_read (rW_pure (w_X8_read_0 hA ⟨p', hR6, hA3', I3, _, nI (ansA f n), r1, w_X8_read_15 hA4 ⟨fun z => absurd z hne, fun _ => w_X8_read_32 hA4 hA4 ⟨p, hR54, hP4, p', hR64, hP4', fun z => absurd z hne, fun _ => ⟨rfl, rfl⟩⟩⟩⟩))
    rw [r2] at tC
    generalize hI1 : up (up I3 0 7 (nI (stA f n (stopK f n)))) 1 1 0 = I1 at tC
    have fr1 : ∀ b j, ¬ ((b = 0 ∧ j = 7) ∨ (b = 1 ∧ j = 1)) → I1 b j = I3 b j := by
      intro b j z
      rw [← hI1, up_at, if_neg (by omega), up_at, if_neg (by omega)]
    have fr0 : ∀ b j, ¬ Prd b j → I1 b j = I b j := by
      intro b j z
      rw [fr1 _ _ (fun y => z (by unfold Prd; omega))]
      exact r4 _ _ (fun y => z (Frt_Prd hp' y))
    have fm : ∀ b j, 169 ≤ b → I1 b j = I b j := by
      intro b j z
      rw [fr1 _ _ (by omega)]
      exact r4 _ _ (by unfold Frt Frd Fk; omega)
    have x11 : I1 1 1 = 0 := by rw [← hI1]; simp [up_at]
    have x07 : I1 0 7 = nI (stA f n (stopK f n)) := by rw [← hI1]; simp [up_at]
    obtain ⟨I2, J2, m1, m2, m3, m4, m5⟩ := ct_mread (γ := γ) (l := l) (J := J) (R := up R 3 5 (some p')) (I := I1) (m := 169) (n := n) (f := f) (s := 1 - s) (v := s) hB4 hn ⟨(fm _ _ (by omega)).trans t2.1, fun j hj => (fm _ _ (by omega)).trans (t2.2 j hj)⟩ t3 hK ((fm _ _ (by omega)).trans h18) hs rfl
    obtain ⟨g1, g2⟩ := m2.1 (by omega)
    have hX2 : PrX I2 169 s xb xr Rs := hX.fr (fun c j z => by
      rw [m4 _ _ (by unfold FrM FtM Ftr; omega)]
      exact fm _ _ (by omega))
    refine ⟨I1, _, I2, J2, _, tC, m1, ⟨hA4, hB4⟩, ⟨0, f, by omega, ⟨?_, fun j hj => absurd hj (by omega)⟩, ⟨m3, fun j hj => absurd hj (by omega)⟩, fun j hj => absurd hj (by omega)⟩, ?_, fun k hk => ?_, Or.inl ⟨⟨⟨hV, ⟨hR54, hP4, hp⟩, ?_, g2, hX2.M⟩, ⟨hR64, hP4', hp', hpp⟩, xb, xr, hX2⟩, ?_⟩, fun b j z => ?_, m5⟩
    · rw [m4 _ _ (by unfold FrM FtM Ftr; omega), x11]; rfl
    · rw [m4 _ _ (by unfold FrM FtM Ftr; omega), x07, g1]
    · rw [m5 _ _ (by omega)]; exact hK k hk
    · refine hC.loc (fun b j z1 z2 => ?_)
      rw [m4 _ _ (by unfold FrM FtM Ftr; omega), fr1 _ _ (by omega)]
      exact r4 _ _ (by unfold Frt Frd Fk; omega)
    · rw [m4 _ _ (by unfold FrM FtM Ftr; omega), fr1 _ _ (by omega)]
      exact r4 _ _ (by unfold Frt Frd Fk; omega)
    · rw [m4 _ _ (fun y => z (FrM_Prd (by omega) y))]
      exact fr0 b j z
end PRD
