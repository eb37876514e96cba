/-! ===== pairs of calls on the way ===== -/
def Pwy (b j : Nat) : Prop := (b = 142 ∧ j = 3) ∨ (146 ≤ b ∧ b ≤ 150) ∨ b = 152 ∨ b = 159 ∨ b = 160 ∨ b = 167 ∨ b = 168 ∨ b = 192 ∨ b = 193 ∨ b = 218 ∨ b = 219 ∨ (221 ≤ b ∧ b ≤ 224)
def SmW (J J' : Nat → Nat → Int64) : Prop := ∀ b j, b ≠ 151 → b ≠ 220 → J' b j = J b j
def S_wc (I : Nat → Nat → Int32) (Rs : List Rul) (H D K : Nat) (ho ld wh : Nat → Nat) : Prop := S_way I H D K ho ld wh ∧ (I 142 3 = 0 ∨ (I 142 3 = 1 ∧ CoC I 142 D K (ocN Rs ho) (scN Rs ho) (dcN Rs ho ld wh)))
theorem S_way.c {I : Nat → Nat → Int32} {H D K : Nat} {ho ld wh : Nat → Nat} (h : S_way I H D K ho ld wh) : WyC I 142 H D K ho ld wh := by
  obtain ⟨h1, h2, h3, h4, h5, h6, h7⟩ := h
  exact ⟨⟨h1, h2, h3⟩, h4, fun j hj => ⟨(h6 j hj).1, (h6 j hj).2.2⟩, fun j hj => ⟨(h7 j hj).1, (h7 j hj).2.1, (h7 j hj).2.2.2.2.1, (h7 j hj).2.2.2.2.2⟩⟩
theorem S_way.m {I : Nat → Nat → Int32} {H D K : Nat} {ho ld wh : Nat → Nat} (h : S_way I H D K ho ld wh) : WyM I 169 H D K ho ld wh := by
  obtain ⟨h1, h2, h3, h4, h5, h6, h7⟩ := h
  exact ⟨h5, fun j hj => (h6 j hj).2.1, fun j hj => ⟨(h7 j hj).2.2.1, (h7 j hj).2.2.2.1⟩⟩
theorem S_way.b {I : Nat → Nat → Int32} {H D K : Nat} {ho ld wh : Nat → Nat} (h : S_way I H D K ho ld wh) : (H ≤ 6 ∧ D ≤ 36 ∧ K ≤ 40) ∧ (∀ j, j < D → ho j < H) ∧ ∀ j, j < K → ld j < D ∧ wh j < 3 := by
  obtain ⟨h1, h2, h3, h4, h5, h6, h7⟩ := h
  exact ⟨⟨h1, h2, h3⟩, fun j hj => (h6 j hj).2.2, fun j hj => ⟨(h7 j hj).2.2.2.2.1, (h7 j hj).2.2.2.2.2⟩⟩
/-- on what the pieces that stay rest -/
theorem S_way.wy {I I' : Nat → Nat → Int32} {H D K : Nat} {ho ld wh : Nat → Nat} (h : S_way I H D K ho ld wh) (hq : Sm Pwy I I') : S_way I' H D K ho ld wh := by
  obtain ⟨h1, h2, h3, ⟨a1, a2, a3⟩, ⟨b1, b2, b3⟩, c1, c2⟩ := h
  have o : ∀ b j, ¬ Pwy b j → I' b j = I b j := hq
  refine ⟨h1, h2, h3, ⟨(o _ _ (by unfold Pwy; omega)).trans a1, (o _ _ (by unfold Pwy; omega)).trans a2, (o _ _ (by unfold Pwy; omega)).trans a3⟩, ⟨(o _ _ (by unfold Pwy; omega)).trans b1, (o _ _ (by unfold Pwy; omega)).trans b2, (o _ _ (by unfold Pwy; omega)).trans b3⟩, fun j hj => ?_, fun j hj => ?_⟩
  · obtain ⟨q1, q2, q3⟩ := c1 j hj
    exact ⟨(o _ _ (by unfold Pwy; omega)).trans q1, (o _ _ (by unfold Pwy; omega)).trans q2, q3⟩
  · obtain ⟨q1, q2, q3, q4, q5, q6⟩ := c2 j hj
    exact ⟨(o _ _ (by unfold Pwy; omega)).trans q1, (o _ _ (by unfold Pwy; omega)).trans q2, (o _ _ (by unfold Pwy; omega)).trans q3, (o _ _ (by unfold Pwy; omega)).trans q4, q5, q6⟩
theorem S_prc.wy {sh : Nat × (Nat → Nat) × (Nat → Nat)} {I I' : Nat → Nat → Int32} {R : Nat → Nat → Option Nat} {p s : Nat} {Rs : List Rul} (h : S_prc sh I R p s Rs) (hq : Sm Pwy I I') : S_prc sh I' R p s Rs := by
  obtain ⟨h1, h2, h3, h4, h5⟩ := h
  have hp := h2.2.2
  exact ⟨h1, h2, h3.loc (fun b j q1 q2 => hq b j (by unfold Pwy; omega)), (hq 169 18 (by unfold Pwy; omega)).trans h4, h5.loc (fun b j q1 q2 => hq b j (by unfold Pwy; omega))⟩
theorem Pkn_wy {p b j : Nat} (hp : p = 153 ∨ p = 161) (h : Pkn 142 p b j) : Pwy b j := by unfold Pkn Pco at h; unfold Pwy; omega
theorem Pmp_wy {b j : Nat} (h : Pmp 169 b j) : Pwy b j := by unfold Pmp at h; unfold Pwy; omega
theorem le_nat {x : Int32} {k : Nat} (hk : k < 2 ^ 31) (h : ¬ x < 0 ∧ x ≤ nI k) : ∃ i : Nat, i ≤ k ∧ x = nI i := by
  obtain ⟨i, hi, rfl⟩ := nI_of h.1
  exact ⟨i, (nI_leI hi hk).mp h.2, rfl⟩
section PR3
variable {γ : rG} {l : Launch} {sh : Nat × (Nat → Nat) × (Nat → Nat)} {I : Nat → Nat → Int32} {J : Nat → Nat → Int64} {R : Nat → Nat → Option Nat} {p s H D K : Nat} {ho ld wh : Nat → Nat} {Rs : List Rul}
/-- the class knows n looks: what holds then -/
theorem wy_know {n : Nat} (hA : At8 sh R 0) (hS : S_wc I Rs H D K ho ld wh) (hP : S_prc sh I R p s Rs) (hn : n ≤ K) :
    ∃ I1, rMet γ l m_X7_know [.ref 142, .int (nI n), .ref p] (sh, I, J, R) (sh, I1, J, R) none ∧ Sm Pwy I I1 ∧ I1 142 3 = 1 ∧ CoC I1 142 D K (ocN Rs ho) (scN Rs ho) (dcN Rs ho ld wh) ∧ DbC I1 142 (dbN (dcN Rs ho ld wh) ld wh n) := by
  have hA7 : At7 sh R 142 := (At8_4 hA).2
  obtain ⟨hVp, ⟨hR, hA3, hp⟩, hC, h18, hM⟩ := hP
  obtain ⟨I1, c1, c2, c3, c4, c5⟩ := ct_know (γ := γ) (l := l) (J := J) hA7 hA3 (by omega) hVp hC hS.1.c hS.2 hn
  exact ⟨I1, c1, c2.mono (fun b j q => Pkn_wy hp q), c3, c4, c5⟩
theorem no_idle {I1 : Nat → Nat → Int32} (hW : WyC I1 142 H D K ho ld wh) : ∀ d, d < D → (I1 (142 + 1) d = (-1 : Int32) ↔ (fun _ : Nat => false) d = true) := fun d hd => by rw [(hW.2.2.1 d hd).1]; have := (hW.2.2.1 d hd).2; have := hW.1.1; exact ⟨fun z => absurd z (nI_ne1 (by omega)), fun z => absurd z Bool.false_ne_true⟩
theorem no_idleM {I1 : Nat → Nat → Int32} (hW : WyM I1 169 H D K ho ld wh) (hb : (H ≤ 6 ∧ D ≤ 36 ∧ K ≤ 40) ∧ (∀ j, j < D → ho j < H) ∧ ∀ j, j < K → ld j < D ∧ wh j < 3) : ∀ d, d < D → (I1 (169 + 46) d = (-1 : Int32) ↔ (fun _ : Nat => false) d = true) := fun d hd => by rw [hW.2.1 d hd]; have := hb.2.1 d hd; have := hb.1.1; exact ⟨fun z => absurd z (nI_ne1 (by omega)), fun z => absurd z Bool.false_ne_true⟩
theorem pc_tale (hA : At8 sh R 0) (hB : At9 sh R 169) (hS : S_wc I Rs H D K ho ld wh) (hP : S_prc sh I R p s Rs) (x : Int32) : ∃ (I1 : Nat → Nat → Int32) (J1 : Nat → Nat → Int64) (I2 : Nat → Nat → Int32) (v : Int32), rMet γ l m_X8_tale [.ref 0, .int x] (sh, I, J, R) (sh, I1, J1, R) (some (.int v)) ∧ rMet γ l m_X9_tale [.ref 169, .int x] (sh, I1, J1, R) (sh, I2, J1, R) (some (.int v)) ∧ S_wc I2 Rs H D K ho ld wh ∧ Sm Pwy I I2 ∧ SmW J J1 := by
  have hA7 : At7 sh R 142 := (At8_4 hA).2
  obtain ⟨hVp, ⟨hR, hA3, hp⟩, hC, h18, hM⟩ := id hP
  have hb := hS.1.b
  by_cases g : ¬ x < 0 ∧ x ≤ nI K
  · obtain ⟨n, hn, rfl⟩ := le_nat (by omega) g
    obtain ⟨I1, c1, c2, c3, c4, c5⟩ := wy_know (γ := γ) (l := l) (J := J) hA hS hP hn
    have hW1 := hS.1.wy c2
    have hBw := Bw_of (Rs := Rs) hW1.c hn
    obtain ⟨I2, J2, d1, d2, d3, d4⟩ := ct_weigh7 (γ := γ) (l := l) (I := I1) (J := J) (idl := fun _ => false) (x := -1) hA7 hBw (CstW_of (n := n) hW1.c c4 c5) (no_idle hW1.c)
    have s2 : Sm Pwy I I2 := c2.tr (d3.mono (fun b j q => by unfold Pwy; omega))
    have hW2 := hS.1.wy s2
    obtain ⟨_, _, _, h18', hM'⟩ := hP.wy s2
    obtain ⟨I3, e1, e2, e3', e4⟩ := ct_prices (γ := γ) (l := l) (J := J2) hB hVp hM' h18' hW2.m hb hn
    have s3 : Sm Pwy I I3 := s2.tr (e4.mono (fun b j q => Pmp_wy q))
    have hW3 := hS.1.wy s3
    have e0 := (d2 0 0 (Nat.zero_le _) (by omega)).1
    simp only [Nat.mul_zero, Nat.add_zero, Nat.sub_zero] at e0
    refine ⟨I2, J2, I3, nI (LW D (ocN Rs ho) (scN Rs ho) (dbN (dcN Rs ho ld wh) ld wh n) (fun _ => false) D 0), e_X8_tale (rW_pure (w_X8_tale_0 hA ⟨_, ct_knows hA7 hS.1.c, p, hR, hA3, fun z => absurd g (bz_0.mp z), fun _ => ⟨I1, c1, I2, J2, d1, _, ct_leastCost hA7, rfl, ?_⟩⟩)), e_X9_tale (rW_pure (w_X9_tale_0 hB ⟨_, ct_isKnown hB hW2.m, fun z => absurd g (bz_0.mp z), fun _ => ⟨I3, e1, ?_⟩⟩)), ⟨hW3, Or.inr ⟨?_, ?_⟩⟩, s3, fun b j q1 q2 => d4 b j (by omega)⟩
    · rw [e0]
    · rw [hW3.m.1.2.1]
      refine ⟨fun z => ⟨rfl, ?_⟩, fun z => ?_⟩
      · have : D = 0 := by
          rcases Nat.eq_zero_or_pos D with q | q
          · exact q
          · exact absurd z (nI_ne0 q (by omega))
        rw [this]; simp only [LW]; rw [nI_0]
      · have hD : 0 < D := by
          rcases Nat.eq_zero_or_pos D with q | q
          · rw [q] at z; exact absurd (by decide) z
          · exact q
        have cl := ct_mleast (γ := γ) (l := l) (J := J2) (d := 0) (f := 0) hB hBw e2 hD (by omega) (e3' 0 hD)
        rw [nI_0, Nat.sub_zero] at cl
        exact ⟨_, cl, rfl, rfl⟩
    · rw [e4 _ _ (by unfold Pmp; omega), d3 _ _ (by simp)]; exact c3
    · exact c4.loc (fun b j q => by rw [e4 _ _ (by unfold Pmp; omega), d3 _ _ (by simp; omega)])
  · exact ⟨I, J, I, -1, e_X8_tale (rW_pure (w_X8_tale_0 hA ⟨_, ct_knows hA7 hS.1.c, p, hR, hA3, fun _ => ⟨rfl, rfl⟩, fun z => absurd (bz_0.mpr g) z⟩)), e_X9_tale (rW_pure (w_X9_tale_0 hB ⟨_, ct_isKnown hB hS.1.m, fun _ => ⟨rfl, rfl⟩, fun z => absurd (bz_0.mpr g) z⟩)), hS, Sm.rf, fun _ _ _ _ => rfl⟩
theorem pc_tales (hA : At8 sh R 0) (hB : At9 sh R 169) (hS : S_wc I Rs H D K ho ld wh) (hP : S_prc sh I R p s Rs) (x : Int32) : ∃ (I1 : Nat → Nat → Int32) (J1 : Nat → Nat → Int64) (I2 : Nat → Nat → Int32) (J2 : Nat → Nat → Int64) (v : Int64), rMet γ l m_X8_tales [.ref 0, .int x] (sh, I, J, R) (sh, I1, J1, R) (some (.long v)) ∧ rMet γ l m_X9_tales [.ref 169, .int x] (sh, I1, J1, R) (sh, I2, J2, R) (some (.long v)) ∧ S_wc I2 Rs H D K ho ld wh ∧ Sm Pwy I I2 ∧ SmW J J2 := by
  have hA7 : At7 sh R 142 := (At8_4 hA).2
  obtain ⟨hVp, ⟨hR, hA3, hp⟩, hC, h18, hM⟩ := id hP
  have hb := hS.1.b
  by_cases g : ¬ x < 0 ∧ x ≤ nI K
  · obtain ⟨n, hn, rfl⟩ := le_nat (by omega) g
    obtain ⟨I1, c1, c2, c3, c4, c5⟩ := wy_know (γ := γ) (l := l) (J := J) hA hS hP hn
    have hW1 := hS.1.wy c2
    have hBw := Bw_of (Rs := Rs) hW1.c hn
    obtain ⟨I2, J2, d1, d2, d3, d4⟩ := ct_weigh7 (γ := γ) (l := l) (I := I1) (J := J) (idl := fun _ => false) (x := -1) hA7 hBw (CstW_of (n := n) hW1.c c4 c5) (no_idle hW1.c)
    have s2 : Sm Pwy I I2 := c2.tr (d3.mono (fun b j q => by unfold Pwy; omega))
    have hW2 := hS.1.wy s2
    obtain ⟨_, _, _, h18', hM'⟩ := hP.wy s2
    obtain ⟨I3, e1, e2, e3', e4⟩ := ct_prices (γ := γ) (l := l) (J := J2) hB hVp hM' h18' hW2.m hb hn
    have s3 : Sm Pwy I I3 := s2.tr (e4.mono (fun b j q => Pmp_wy q))
    have hW3 := hS.1.wy s3
    obtain ⟨J3, f1, f2⟩ := ct_talesBut (γ := γ) (l := l) (I := I3) (J := J2) (idl := fun _ => false) (x := -1) (ho := ho) hB hBw e2 hW3.m.1.2.1 e3' (no_idleM hW3.m hb)
    have eM := MO_eq (D := D) (oc := ocN Rs ho) (sc := scN Rs ho) (db := dbN (dcN Rs ho ld wh) ld wh n) (idl := fun _ => false) D (Nat.le_refl _) 0 (by omega)
    rw [if_pos rfl] at eM
    rw [eM] at f1
    have e0 := (d2 0 0 (Nat.zero_le _) (by omega)).2
    simp only [Nat.mul_zero, Nat.add_zero, Nat.sub_zero] at e0
    refine ⟨I2, J2, I3, J3, MW D (ocN Rs ho) (scN Rs ho) (dbN (dcN Rs ho ld wh) ld wh n) (fun _ => false) D 0, e_X8_tales (rW_pure (w_X8_tales_0 hA ⟨_, ct_knows hA7 hS.1.c, p, hR, hA3, fun z => absurd g (bz_0.mp z), fun _ => ⟨I1, c1, I2, J2, d1, _, ct_howMany hA7, rfl, ?_⟩⟩)), e_X9_tales (rW_pure (w_X9_tales_0 hB ⟨_, ct_isKnown hB hW2.m, fun z => absurd g (bz_0.mp z), fun _ => ⟨I3, e1, J3, _, f1, rfl, rfl⟩⟩)), ⟨hW3, Or.inr ⟨?_, ?_⟩⟩, s3, fun b j q1 q2 => (f2 b j (by omega)).trans (d4 b j (by omega))⟩
    · rw [e0]
    · rw [e4 _ _ (by unfold Pmp; omega), d3 _ _ (by simp)]; exact c3
    · exact c4.loc (fun b j q => by rw [e4 _ _ (by unfold Pmp; omega), d3 _ _ (by simp; omega)])
  · exact ⟨I, J, I, J, -1, e_X8_tales (rW_pure (w_X8_tales_0 hA ⟨_, ct_knows hA7 hS.1.c, p, hR, hA3, fun _ => ⟨rfl, rfl⟩, fun z => absurd (bz_0.mpr g) z⟩)), e_X9_tales (rW_pure (w_X9_tales_0 hB ⟨_, ct_isKnown hB hS.1.m, fun _ => ⟨rfl, rfl⟩, fun z => absurd (bz_0.mpr g) z⟩)), hS, Sm.rf, fun _ _ _ _ => rfl⟩
theorem pc_told (hA : At8 sh R 0) (hB : At9 sh R 169) (hS : S_wc I Rs H D K ho ld wh) (hP : S_prc sh I R p s Rs) (y x : Int32) : ∃ (I1 : Nat → Nat → Int32) (J1 : Nat → Nat → Int64) (I2 : Nat → Nat → Int32) (v : Int32), rMet γ l m_X8_told [.ref 0, .int y, .int x] (sh, I, J, R) (sh, I1, J1, R) (some (.int v)) ∧ rMet γ l m_X9_told [.ref 169, .int y, .int x] (sh, I1, J1, R) (sh, I2, J1, R) (some (.int v)) ∧ S_wc I2 Rs H D K ho ld wh ∧ Sm Pwy I I2 ∧ SmW J J1 := by
  have hA7 : At7 sh R 142 := (At8_4 hA).2
  obtain ⟨hVp, ⟨hR, hA3, hp⟩, hC, h18, hM⟩ := id hP
  have hb := hS.1.b
  have e1D : I (0 + 142) 1 = nI D := hS.1.c.2.1.2.1
  by_cases g : ¬ x < 0 ∧ x ≤ nI K
  · by_cases g2 : ¬ y < 0 ∧ y < nI D
    · obtain ⟨n, hn, rfl⟩ := le_nat (by omega) g
      obtain ⟨dd, hdd, rfl⟩ := in_nat (by omega) g2
      obtain ⟨I1, c1, c2, c3, c4, c5⟩ := wy_know (γ := γ) (l := l) (J := J) hA hS hP hn
      have hW1 := hS.1.wy c2
      have hBw := Bw_of (Rs := Rs) hW1.c hn
      have hCw := CstW_of (n := n) hW1.c c4 c5
      obtain ⟨I2, J2, d1, d2, d3, d4⟩ := ct_weigh7 (γ := γ) (l := l) (I := I1) (J := J) (idl := fun _ => false) (x := -1) hA7 hBw hCw (no_idle hW1.c)
      obtain ⟨I4, t1, t2, t3⟩ := ct_tell (γ := γ) (l := l) (I := I2) (J := J2) hA7 hBw (hCw.loc (fun b j q => d3 b j (by simp; omega))) (fun d s q1 q2 => (d2 d s q1 q2).1)
      have s2 : Sm Pwy I I4 := (c2.tr (d3.mono (fun b j q => by unfold Pwy; omega))).tr (t3.mono (fun b j q => by unfold Pwy; omega))
      have hW2 := hS.1.wy s2
      obtain ⟨_, _, _, h18', hM'⟩ := hP.wy s2
      obtain ⟨I3, e1, e2, e4⟩ := ct_tellsTale (γ := γ) (l := l) (J := J2) hB hVp hM' h18' hW2.m hb hn
      have s3 : Sm Pwy I I3 := s2.tr (e4.mono (fun b j q => q.elim Pmp_wy (fun q => by unfold Pwy; omega)))
      have hW3 := hS.1.wy s3
      have hv : vp_in (nI dd) 36 := vp_in_nI (by omega) (by decide)
      refine ⟨I4, J2, I3, nI (stW D (ocN Rs ho) (scN Rs ho) (dbN (dcN Rs ho ld wh) ld wh n) (dd + 1)), e_X8_told (rW_pure (w_X8_told_0 hA ⟨_, ct_knows hA7 hS.1.c, p, hR, hA3, fun z => absurd g (bz_0.mp z), fun _ => ⟨fun z => absurd z g2.1, fun _ => ⟨fun _ => ⟨I1, c1, I2, J2, d1, I4, _, t1, hv, rfl, ?_⟩, fun z => absurd (by rw [e1D]; exact g2.2) z⟩⟩⟩)), e_X9_told (rW_pure (w_X9_told_0 hB ⟨fun z => absurd z g2.1, fun _ => ⟨fun z => absurd z ?_, fun _ => ⟨_, ct_isKnown hB hW2.m, fun z => absurd g (bz_0.mp z), fun _ => ⟨I3, e1, hv, rfl, ?_⟩⟩⟩⟩)), ⟨hW3, Or.inr ⟨?_, ?_⟩⟩, s3, fun b j q1 q2 => d4 b j (by omega)⟩
      · rw [nI_clamp (by omega)]
        have := t2 dd hdd
        rw [show I4 (0 + 142 + 10) dd = nI (stW D (ocN Rs ho) (scN Rs ho) (dbN (dcN Rs ho ld wh) ld wh n) (dd + 1)) from this]
      · rw [hW2.m.1.2.1]; exact nI_ge hdd (by omega)
      · rw [nI_clamp (by omega), e2 dd hdd]
      · rw [e4 _ _ (by unfold Pmp; omega), t3 _ _ (by simp), d3 _ _ (by simp)]; exact c3
      · exact c4.loc (fun b j q => by rw [e4 _ _ (by unfold Pmp; omega), t3 _ _ (by simp; omega), d3 _ _ (by simp; omega)])
    · refine ⟨I, J, I, -1, e_X8_told (rW_pure (w_X8_told_0 hA ⟨_, ct_knows hA7 hS.1.c, p, hR, hA3, fun z => absurd g (bz_0.mp z), fun _ => ⟨fun _ => ⟨rfl, rfl⟩, fun z => ⟨fun w => absurd ⟨z, by rw [e1D] at w; exact w⟩ g2, fun _ => ⟨rfl, rfl⟩⟩⟩⟩)), e_X9_told (rW_pure (w_X9_told_0 hB ⟨fun _ => ⟨rfl, rfl⟩, fun z => ⟨fun _ => ⟨rfl, rfl⟩, fun w => absurd ⟨z, by rw [hS.1.m.1.2.1] at w; exact Int32.not_le.mp w⟩ g2⟩⟩)), hS, Sm.rf, fun _ _ _ _ => rfl⟩
  · exact ⟨I, J, I, -1, e_X8_told (rW_pure (w_X8_told_0 hA ⟨_, ct_knows hA7 hS.1.c, p, hR, hA3, fun _ => ⟨rfl, rfl⟩, fun z => absurd (bz_0.mpr g) z⟩)), e_X9_told (rW_pure (w_X9_told_0 hB ⟨fun _ => ⟨rfl, rfl⟩, fun z => ⟨fun _ => ⟨rfl, rfl⟩, fun _ => ⟨_, ct_isKnown hB hS.1.m, fun _ => ⟨rfl, rfl⟩, fun z => absurd (bz_0.mpr g) z⟩⟩⟩)), hS, Sm.rf, fun _ _ _ _ => rfl⟩
theorem pc_opened (hA : At8 sh R 0) (hB : At9 sh R 169) (hS : S_wc I Rs H D K ho ld wh) (hP : S_prc sh I R p s Rs) (y x : Int32) : ∃ (I1 : Nat → Nat → Int32) (J1 : Nat → Nat → Int64) (I2 : Nat → Nat → Int32) (J2 : Nat → Nat → Int64) (v : Int32), rMet γ l m_X8_opened [.ref 0, .int y, .int x] (sh, I, J, R) (sh, I1, J1, R) (some (.int v)) ∧ rMet γ l m_X9_opened [.ref 169, .int y, .int x] (sh, I1, J1, R) (sh, I2, J2, R) (some (.int v)) ∧ S_wc I2 Rs H D K ho ld wh ∧ Sm Pwy I I2 ∧ SmW J J2 := by
  have hA7 : At7 sh R 142 := (At8_4 hA).2
  obtain ⟨hVp, ⟨hR, hA3, hp⟩, hC, h18, hM⟩ := id hP
  have hb := hS.1.b
  have e1H : I (0 + 142) 0 = nI H := hS.1.c.2.1.1
  by_cases g : ¬ x < 0 ∧ x ≤ nI K
  · by_cases g2 : ¬ y < 0 ∧ y < nI H
    · obtain ⟨n, hn, rfl⟩ := le_nat (by omega) g
      obtain ⟨h, hh, rfl⟩ := in_nat (by omega) g2
      obtain ⟨I1, c1, c2, c3, c4, c5⟩ := wy_know (γ := γ) (l := l) (J := J) hA hS hP hn
      have hW1 := hS.1.wy c2
      have hBw := Bw_of (Rs := Rs) hW1.c hn
      obtain ⟨I2, J2, d1, d3, d4⟩ := ct_guiltOf (γ := γ) (l := l) (I := I1) (J := J) hA7 hBw (CstW_of (n := n) hW1.c c4 c5) hW1.c hh
      have s2 : Sm Pwy I I2 := c2.tr (d3.mono (fun b j q => by unfold Pwy; omega))
      have hW2 := hS.1.wy s2
      obtain ⟨_, _, _, h18', hM'⟩ := hP.wy s2
      obtain ⟨I3, e1, e2, e3', e4⟩ := ct_prices (γ := γ) (l := l) (J := J2) hB hVp hM' h18' hW2.m hb hn
      have s3 : Sm Pwy I I3 := s2.tr (e4.mono (fun b j q => Pmp_wy q))
      have hW3 := hS.1.wy s3
      obtain ⟨J3, f1, f2⟩ := ct_talesBut (γ := γ) (l := l) (I := I3) (J := J2) (idl := fun _ => false) (x := -1) (ho := ho) hB hBw e2 hW3.m.1.2.1 e3' (no_idleM hW3.m hb)
      obtain ⟨J4, f3, f4⟩ := ct_talesBut (γ := γ) (l := l) (I := I3) (J := J3) (idl := fun d => ho d == h) (x := nI h) (ho := ho) hB hBw e2 hW3.m.1.2.1 e3' (fun d hd => by have := hb.2.1 d hd; rw [hW3.m.2.1 d hd, nI_eq (by omega) (by omega), beq_iff_eq])
      have eM := MO_eq (D := D) (oc := ocN Rs ho) (sc := scN Rs ho) (db := dbN (dcN Rs ho ld wh) ld wh n) (idl := fun _ => false) D (Nat.le_refl _) 0 (by omega)
      rw [if_pos rfl] at eM
      rw [eM] at f1
      rw [MO_eq D (Nat.le_refl _) 0 (by omega)] at f3
      refine ⟨I2, J2, I3, J4, _, e_X8_opened (rW_pure (w_X8_opened_0 hA ⟨_, ct_knows hA7 hS.1.c, p, hR, hA3, fun z => absurd g (bz_0.mp z), fun _ => ⟨fun z => absurd z g2.1, fun _ => ⟨fun _ => ⟨I1, c1, I2, J2, _, d1, rfl, rfl⟩, fun z => absurd (by rw [e1H]; exact g2.2) z⟩⟩⟩)), e_X9_opened (rW_pure (w_X9_opened_0 hB ⟨fun z => absurd z g2.1, fun _ => ⟨fun z => absurd z ?_, fun _ => ⟨_, ct_isKnown hB hW2.m, fun z => absurd g (bz_0.mp z), fun _ => ⟨I3, e1, J3, _, f1, J4, _, f3, ?_⟩⟩⟩⟩)), ⟨hW3, Or.inr ⟨?_, ?_⟩⟩, s3, fun b j q1 q2 => (f4 b j (by omega)).trans ((f2 b j (by omega)).trans (d4 b j (by omega)))⟩
      · rw [hW2.m.1.1]; exact nI_ge hh (by omega)
      · rw [lg_0, lg_0]
        refine ⟨fun z => ⟨rfl, ?_⟩, fun z => ⟨fun w => ⟨rfl, ?_⟩, fun w => ⟨rfl, ?_⟩⟩⟩
        · unfold glJ; rw [if_pos z]
        · unfold glJ; rw [if_neg z, if_pos w]
        · unfold glJ; rw [if_neg z, if_neg w]
      · rw [e4 _ _ (by unfold Pmp; omega), d3 _ _ (by simp)]; exact c3
      · exact c4.loc (fun b j q => by rw [e4 _ _ (by unfold Pmp; omega), d3 _ _ (by simp; omega)])
    · exact ⟨I, J, I, J, -1, e_X8_opened (rW_pure (w_X8_opened_0 hA ⟨_, ct_knows hA7 hS.1.c, p, hR, hA3, fun z => absurd g (bz_0.mp z), fun _ => ⟨fun _ => ⟨rfl, rfl⟩, fun z => ⟨fun w => absurd ⟨z, by rw [e1H] at w; exact w⟩ g2, fun _ => ⟨rfl, rfl⟩⟩⟩⟩)), e_X9_opened (rW_pure (w_X9_opened_0 hB ⟨fun _ => ⟨rfl, rfl⟩, fun z => ⟨fun _ => ⟨rfl, rfl⟩, fun w => absurd ⟨z, by rw [hS.1.m.1.1] at w; exact Int32.not_le.mp w⟩ g2⟩⟩)), hS, Sm.rf, fun _ _ _ _ => rfl⟩
  · exact ⟨I, J, I, J, -1, e_X8_opened (rW_pure (w_X8_opened_0 hA ⟨_, ct_knows hA7 hS.1.c, p, hR, hA3, fun _ => ⟨rfl, rfl⟩, fun z => absurd (bz_0.mpr g) z⟩)), e_X9_opened (rW_pure (w_X9_opened_0 hB ⟨fun _ => ⟨rfl, rfl⟩, fun z => ⟨fun _ => ⟨rfl, rfl⟩, fun _ => ⟨_, ct_isKnown hB hS.1.m, fun _ => ⟨rfl, rfl⟩, fun z => absurd (bz_0.mpr g) z⟩⟩⟩)), hS, Sm.rf, fun _ _ _ _ => rfl⟩
/-- the model's search for the look that turns the tale -/
theorem mturned_loop {N : Nat → Nat → Int32} (hB : At9 sh R 169) (hVp : V_prc Rs) (hM : PrM N 169 s Rs) (h18 : N 169 18 = nI s) (hW : WyM N 169 H D K ho ld wh) (hb : (H ≤ 6 ∧ D ≤ 36 ∧ K ≤ 40) ∧ (∀ j, j < D → ho j < H) ∧ ∀ j, j < K → ld j < D ∧ wh j < 3) : ∀ j k (I1 : Nat → Nat → Int32), k + j = K → Sm (fun b j => Pmp 169 b j ∨ b = 169 + 54 ∨ b = 169 + 55) N I1 → (∀ d, d < D → I1 (169 + 54) d = nI (stW D (ocN Rs ho) (scN Rs ho) (dbN (dcN Rs ho ld wh) ld wh k) (d + 1))) → s_X9_turned_21 γ l 169 (nI k) (sh, I1, J, R) (fun hf v => ∃ I', hf = (sh, I', J, R) ∧ v = some (.int (turnW D K (ocN Rs ho) (scN Rs ho) (dbN (dcN Rs ho ld wh) ld wh) j k)) ∧ Sm (fun b j => Pmp 169 b j ∨ b = 169 + 54 ∨ b = 169 + 55) N I') := by
  obtain ⟨⟨b1, b2, b3⟩, b4, b5⟩ := id hb
  intro j
  induction j with
  | zero =>
    intro k I1 hk hS ht
    refine w_X9_turned_21 hB ⟨fun _ => ⟨I1, rfl, rfl, hS⟩, fun z => absurd ?_ z⟩
    rw [hS _ _ (by unfold Pmp; omega), hW.1.2.2]; exact nI_le (by omega) (by omega)
  | succ j ih =>
    intro k I1 hk hS ht
    have cp : ∀ j2 d (I2 : Nat → Nat → Int32), d + j2 = D → Sm (fun b j => Pmp 169 b j ∨ b = 169 + 54 ∨ b = 169 + 55) N I2 → (∀ e, e < D → I2 (169 + 54) e = nI (stW D (ocN Rs ho) (scN Rs ho) (dbN (dcN Rs ho ld wh) ld wh k) (e + 1))) → (∀ e, e < d → I2 (169 + 55) e = nI (stW D (ocN Rs ho) (scN Rs ho) (dbN (dcN Rs ho ld wh) ld wh k) (e + 1))) → s_X9_turned_31 γ l 169 (nI k) (nI d) (sh, I2, J, R) (fun hf v => ∃ I', hf = (sh, I', J, R) ∧ v = some (.int (turnW D K (ocN Rs ho) (scN Rs ho) (dbN (dcN Rs ho ld wh) ld wh) (j + 1) k)) ∧ Sm (fun b j => Pmp 169 b j ∨ b = 169 + 54 ∨ b = 169 + 55) N I') := by
      intro j2
      induction j2 with
      | zero =>
        intro d I2 hd hS2 h54 h55
        have e : d = D := by omega
        subst e
        have hW2 : WyM I2 169 H d K ho ld wh := hW.loc (fun b j q => hS2 b j (by unfold Pmp; omega))
        obtain ⟨I3, e1, e2, e4⟩ := ct_tellsTale (γ := γ) (l := l) (J := J) (n := k + 1) hB hVp (hM.loc (fun b j q1 q2 => hS2 b j (by unfold Pmp; omega))) ((hS2 _ _ (by unfold Pmp; omega)).trans h18) hW2 hb (by omega)
        have hS3 : Sm (fun b j => Pmp 169 b j ∨ b = 169 + 54 ∨ b = 169 + 55) N I3 := hS2.tr (e4.mono (fun b j q => q.elim Or.inl (fun q => Or.inr (Or.inl q))))
        have h553 : ∀ e, e < d → I3 (169 + 55) e = nI (stW d (ocN Rs ho) (scN Rs ho) (dbN (dcN Rs ho ld wh) ld wh k) (e + 1)) := fun e he => by rw [e4 _ _ (by unfold Pmp; omega)]; exact h55 e he
        have e71 : I3 169 71 = nI d := (hS3 _ _ (by unfold Pmp; omega)).trans hW.1.2.1
        have cm : ∀ j3 x, x + j3 = d → (∀ y, y < x → stW d (ocN Rs ho) (scN Rs ho) (dbN (dcN Rs ho ld wh) ld wh k) (y + 1) = stW d (ocN Rs ho) (scN Rs ho) (dbN (dcN Rs ho ld wh) ld wh (k + 1)) (y + 1)) → s_X9_turned_66 γ l 169 (nI k) (nI x) (sh, I3, J, R) (fun hf v => ∃ I', hf = (sh, I', J, R) ∧ v = some (.int (turnW d K (ocN Rs ho) (scN Rs ho) (dbN (dcN Rs ho ld wh) ld wh) (j + 1) k)) ∧ Sm (fun b j => Pmp 169 b j ∨ b = 169 + 54 ∨ b = 169 + 55) N I') := by
          intro j3
          induction j3 with
          | zero =>
            intro x hx hy
            refine w_X9_turned_66 hB ⟨fun _ => ?_, fun z => absurd (by rw [e71]; exact nI_le (by omega) (by omega)) z⟩
            have := ih (k + 1) I3 (by omega) hS3 e2
            rw [nI_1]
            simp only [turnW]
            rw [if_pos (fun y hy2 => hy y (by omega))]
            exact this
          | succ j3 ih3 =>
            intro x hx hy
            have hv : vp_in (nI x) 36 := vp_in_nI (by omega) (by decide)
            have l1 := st_lt (D := d) (oc := ocN Rs ho) (sc := scN Rs ho) (db := dbN (dcN Rs ho ld wh) ld wh k) (x + 1)
            have l2 := st_lt (D := d) (oc := ocN Rs ho) (sc := scN Rs ho) (db := dbN (dcN Rs ho ld wh) ld wh (k + 1)) (x + 1)
            refine w_X9_turned_66 hB ⟨fun z => absurd z (by rw [e71]; exact nI_ge (by omega) (by omega)), fun _ => ⟨hv, hv, ?_⟩⟩
            rw [nI_clamp (by omega), e2 x (by omega), h553 x (by omega), nI_eq (by omega) (by omega), nI_1]
            refine ⟨fun z => ih3 (x + 1) (by omega) (fun y hy2 => ?_), fun z => ⟨I3, rfl, ?_, hS3⟩⟩
            · by_cases e : y = x
              · subst e; exact z.symm
              · exact hy y (by omega)
            · simp only [turnW]
              rw [if_neg (fun w => z (w x (by omega)).symm)]
        refine w_X9_turned_31 hB ⟨fun _ => ⟨I3, ?_, ?_⟩, fun z => absurd ?_ z⟩
        · rw [nI_1]; exact e1
        · have := cm d 0 (by omega) (fun y hy => by omega)
          rw [nI_0] at this
          exact this
        · rw [hW2.1.2.1]; exact nI_le (Nat.le_refl _) (by omega)
      | succ j2 ih2 =>
        intro d I2 hd hS2 h54 h55
        have hv : vp_in (nI d) 36 := vp_in_nI (by omega) (by decide)
        refine w_X9_turned_31 hB ⟨fun z => absurd z ?_, fun _ => ⟨hv, hv, ?_⟩⟩
        · rw [hS2 _ _ (by unfold Pmp; omega), hW.1.2.1]; exact nI_ge (by omega) (by omega)
        · rw [nI_clamp (by omega), h54 d (by omega), nI_1]
          refine ih2 (d + 1) _ (by omega) (hS2.up (Or.inr (Or.inr rfl))) (fun e he => by rw [up_at, if_neg (by omega)]; exact h54 e he) (fun e he => ?_)
          by_cases q : e = d
          · subst q; rw [up_at, if_pos ⟨rfl, rfl⟩]
          · rw [up_at, if_neg (by omega)]; exact h55 e (by omega)
    refine w_X9_turned_21 hB ⟨fun z => absurd z ?_, fun _ => ?_⟩
    · rw [hS _ _ (by unfold Pmp; omega), hW.1.2.2]; exact nI_ge (by omega) (by omega)
    · have := cp D 0 I1 (by omega) hS ht (fun e he => by omega)
      rw [nI_0] at this
      exact this
theorem pc_turned (hA : At8 sh R 0) (hB : At9 sh R 169) (hS : S_wc I Rs H D K ho ld wh) (hP : S_prc sh I R p s Rs) (x : Int32) : ∃ (I1 : Nat → Nat → Int32) (J1 : Nat → Nat → Int64) (I2 : Nat → Nat → Int32) (v : Int32), rMet γ l m_X8_turned [.ref 0, .int x] (sh, I, J, R) (sh, I1, J1, R) (some (.int v)) ∧ rMet γ l m_X9_turned [.ref 169, .int x] (sh, I1, J1, R) (sh, I2, J1, R) (some (.int v)) ∧ S_wc I2 Rs H D K ho ld wh ∧ Sm Pwy I I2 ∧ SmW J J1 := by
  have hA7 : At7 sh R 142 := (At8_4 hA).2
  obtain ⟨hVp, ⟨hR, hA3, hp⟩, hC, h18, hM⟩ := id hP
  have hb := hS.1.b
  have e1K : I (0 + 142) 2 = nI K := hS.1.c.2.1.2.2
  by_cases g : ¬ x < 0 ∧ x < nI K
  · obtain ⟨n, hn, rfl⟩ := in_nat (by omega) g
    obtain ⟨I1, c1, c2, c3, c4, c5⟩ := wy_know (γ := γ) (l := l) (J := J) (n := n) hA hS hP (by omega)
    have hW1 := hS.1.wy c2
    obtain ⟨I2, J2, d1, d3, d4⟩ := ct_firstTurn (γ := γ) (l := l) (I := I1) (J := J) hA7 hW1.c c4 c5 hn
    have s2 : Sm Pwy I I2 := c2.tr (d3.mono (fun b j q => by unfold Pwy; omega))
    have hW2 := hS.1.wy s2
    obtain ⟨_, _, _, h18', hM'⟩ := hP.wy s2
    obtain ⟨I3, e1, e2, e4⟩ := ct_tellsTale (γ := γ) (l := l) (J := J2) (n := n) hB hVp hM' h18' hW2.m hb (by omega)
    obtain ⟨I4, f1, f2⟩ := rW_ex (w_X9_turned_0 (x1 := nI n) hB (I := I2) (J := J2) ⟨fun z => absurd z g.1, fun _ => ⟨fun _ => ⟨I3, e1, mturned_loop (γ := γ) (l := l) (J := J2) hB hVp hM' h18' hW2.m hb (K - n) n I3 (by omega) (e4.mono (fun b j q => q.elim Or.inl (fun q => Or.inr (Or.inl q)))) e2⟩, fun z => absurd (by rw [hW2.m.1.2.2]; exact g.2) z⟩⟩)
    have s3 : Sm Pwy I I4 := s2.tr (f2.mono (fun b j q => q.elim Pmp_wy (fun q => by unfold Pwy; omega)))
    refine ⟨I2, J2, I4, _, e_X8_turned (rW_pure (w_X8_turned_0 hA ⟨p, hR, hA3, fun z => absurd z g.1, fun _ => ⟨fun _ => ⟨I1, c1, I2, J2, _, d1, rfl, rfl⟩, fun z => absurd (by rw [e1K]; exact g.2) z⟩⟩)), e_X9_turned f1, ⟨hS.1.wy s3, Or.inr ⟨?_, ?_⟩⟩, s3, fun b j q1 q2 => d4 b j (by omega)⟩
    · rw [f2 _ _ (by unfold Pmp; omega), d3 _ _ (by simp)]; exact c3
    · exact c4.loc (fun b j q => by rw [f2 _ _ (by unfold Pmp; omega), d3 _ _ (by simp; omega)])
  · exact ⟨I, J, I, -1, e_X8_turned (rW_pure (w_X8_turned_0 hA ⟨p, hR, hA3, fun _ => ⟨rfl, rfl⟩, fun z => ⟨fun w => absurd ⟨z, by rw [e1K] at w; exact w⟩ g, fun _ => ⟨rfl, rfl⟩⟩⟩)), e_X9_turned (rW_pure (w_X9_turned_0 hB ⟨fun _ => ⟨rfl, rfl⟩, fun z => ⟨fun w => absurd ⟨z, by rw [hS.1.m.1.2.2] at w; exact w⟩ g, fun _ => ⟨rfl, rfl⟩⟩⟩)), hS, Sm.rf, fun _ _ _ _ => rfl⟩
end PR3
