/-! ===== pairs of calls that ask for prices ===== -/
def S_prc (sh : Nat × (Nat → Nat) × (Nat → Nat)) (I : Nat → Nat → Int32) (R : Nat → Nat → Option Nat) (p s : Nat) (Rs : List Rul) : Prop := V_prc Rs ∧ (R 0 5 = some p ∧ At3 sh R p ∧ (p = 153 ∨ p = 161)) ∧ PrC I p Rs ∧ I 169 18 = nI s ∧ PrM I 169 s Rs
/-- what no call needs of an earlier one -/
def Psc (b j : Nat) : Prop := b = 159 ∨ b = 160 ∨ b = 167 ∨ b = 168 ∨ b = 192 ∨ b = 193 ∨ (b = 169 ∧ (j = 54 ∨ j = 55)) ∨ (b = 5 ∧ (j = 12 ∨ j = 13))
theorem Pp_sc {p b j : Nat} (hp : p = 153 ∨ p = 161) (h : Pp p b j) : Psc b j := by unfold Pp at h; unfold Psc; omega
theorem Pw_sc {p b j : Nat} (hp : p = 153 ∨ p = 161) (h : Pw 5 p b j) : Psc b j := by unfold Pw Pp at h; unfold Psc; omega
theorem Fs_sc {b j : Nat} (h : Fs 169 b j) : Psc b j := by unfold Fs at h; unfold Psc; omega
theorem S_sheet.sc {n : Nat} {I I' : Nat → Nat → Int32} {T : Sht} (h : S_sheet n I T) (hq : Sm Psc I I') : S_sheet n I' T := h.loc (fun b j q => hq b j (fun w => by unfold Psc at w; unfold Psh Fc Fm at q; omega))
theorem S_prc.sc {sh : Nat × (Nat → Nat) × (Nat → Nat)} {I I' : Nat → Nat → Int32} {R : Nat → Nat → Option Nat} {p s : Nat} {Rs : List Rul} (h : S_prc sh I R p s Rs) (hq : Sm Psc I I') : S_prc sh I' R p s Rs := by
  obtain ⟨h1, h2, h3, h4, h5⟩ := h
  have hp := h2.2.2
  exact ⟨h1, h2, h3.loc (fun b j q1 q2 => hq b j (by unfold Psc; omega)), (hq 169 18 (by unfold Psc; omega)).trans h4, h5.loc (fun b j q1 q2 => hq b j (by unfold Psc; omega))⟩
section PR2
variable {γ : rG} {l : Launch} {sh : Nat × (Nat → Nat) × (Nat → Nat)} {I : Nat → Nat → Int32} {J : Nat → Nat → Int64} {R : Nat → Nat → Option Nat} {n p s : Nat} {T : Sht} {Rs : List Rul}
theorem ct_hasAct {x : Int32} (hA : At5 sh R 5) (hC : C_sheet I 5 T) : rMet γ l m_X5_hasAct [.ref 5, .int x] (sh, I, J, R) (sh, I, J, R) (some (.int (bz (¬ x < 0 ∧ x < nI (yA T))))) := by
  refine e_X5_hasAct (rW_pure (w_X5_hasAct_0 hA ?_))
  rw [hC.1.2.1]
  refine ⟨fun z => ⟨rfl, ?_⟩, fun z => ⟨fun y => ⟨rfl, ?_⟩, fun y => ⟨rfl, ?_⟩⟩⟩
  · rw [bz_f (fun w => w.1 z)]
  · rw [bz_f (fun w => Int32.not_lt.mpr y w.2)]
  · rw [bz_t ⟨z, Int32.not_le.mp y⟩]
theorem ct_hasPart {x : Int32} (hA : At5 sh R 5) (hC : C_sheet I 5 T) : rMet γ l m_X5_hasPart [.ref 5, .int x] (sh, I, J, R) (sh, I, J, R) (some (.int (bz (¬ x < 0 ∧ x < nI (yN T))))) := by
  refine e_X5_hasPart (rW_pure (w_X5_hasPart_0 hA ?_))
  rw [hC.1.1]
  refine ⟨fun z => ⟨rfl, ?_⟩, fun z => ⟨fun y => ⟨rfl, ?_⟩, fun y => ⟨rfl, ?_⟩⟩⟩
  · rw [bz_f (fun w => w.1 z)]
  · rw [bz_f (fun w => Int32.not_lt.mpr y w.2)]
  · rw [bz_t ⟨z, Int32.not_le.mp y⟩]
theorem ct_isPart {x : Int32} (hA : At9 sh R 169) (hM : M_sheet I 169 T) : rMet γ l m_X9_isPart [.ref 169, .int x] (sh, I, J, R) (sh, I, J, R) (some (.int (bz (¬ x < 0 ∧ x < nI (yN T))))) := by
  refine e_X9_isPart (rW_pure (w_X9_isPart_0 hA ?_))
  rw [hM.1.1]
  refine ⟨fun z => ⟨rfl, ?_⟩, fun z => ⟨fun y => ⟨rfl, ?_⟩, fun y => ⟨rfl, ?_⟩⟩⟩
  · rw [bz_f (fun w => w.1 z)]
  · rw [bz_f (fun w => Int32.not_lt.mpr y w.2)]
  · rw [bz_t ⟨z, Int32.not_le.mp y⟩]
theorem in_nat {x : Int32} {k : Nat} (hk : k < 2 ^ 31) (h : ¬ x < 0 ∧ x < nI k) : ∃ i : Nat, i < k ∧ x = nI i := by
  obtain ⟨i, hi, rfl⟩ := nI_of h.1
  exact ⟨i, (nI_ltI hi hk).mp h.2, rfl⟩
/-- the class's call changes scratch alone: the model finds all as it was -/
theorem pc_harm (hA : At8 sh R 0) (hB : At9 sh R 169) (hS : S_sheet n I T) (hP : S_prc sh I R p s Rs) (x : Int32) : ∃ (I1 I2 : Nat → Nat → Int32) (v : Int32), rMet γ l m_X8_harm [.ref 0, .int x] (sh, I, J, R) (sh, I1, J, R) (some (.int v)) ∧ rMet γ l m_X9_harm [.ref 169, .int x] (sh, I1, J, R) (sh, I2, J, R) (some (.int v)) ∧ Sm Psc I I2 := by
  have hA5 : At5 sh R 5 := (At8_2 hA).2
  obtain ⟨hVp, ⟨hR, hA3, hp⟩, hC, h18, hM⟩ := id hP
  have h16 := hS.1.2.2.1
  by_cases g : ¬ x < 0 ∧ x < nI (yA T)
  · obtain ⟨i, hi, rfl⟩ := in_nat (by omega) g
    obtain ⟨I1, c1, c2⟩ := ct_harmOf (γ := γ) (l := l) (J := J) hA5 hA3 (by omega) hS.1 hS.2.1 hVp hC hi
    have s1 : Sm Psc I I1 := c2.mono (fun b j q => Pp_sc hp q)
    obtain ⟨hVp', _, hC', h18', hM'⟩ := hP.sc s1
    obtain ⟨I2, d1, d2, d3⟩ := cm_harmOf (γ := γ) (l := l) (J := J) hB hS.1 (hS.sc s1).2.2 hVp hM' h18' hi
    refine ⟨I1, I2, _, e_X8_harm (rW_pure (w_X8_harm_0 hA ⟨_, ct_hasAct hA5 hS.2.1, p, hR, hA3, fun z => absurd g (bz_0.mp z), fun _ => ⟨_, _, c1, rfl, rfl⟩⟩)), e_X9_harm (rW_pure (w_X9_harm_0 hB ⟨fun z => absurd z g.1, fun _ => ⟨fun z => absurd z ?_, fun _ => ⟨_, _, d1, rfl, rfl⟩⟩⟩)), s1.tr (d3.mono (fun b j q => Fs_sc q.1))⟩
    rw [(hS.sc s1).2.2.1.2]; exact nI_ge hi (by omega)
  · refine ⟨I, I, -1, e_X8_harm (rW_pure (w_X8_harm_0 hA ⟨_, ct_hasAct hA5 hS.2.1, p, hR, hA3, fun _ => ⟨rfl, rfl⟩, fun z => absurd (bz_0.mpr g) z⟩)), e_X9_harm (rW_pure (w_X9_harm_0 hB ⟨fun _ => ⟨rfl, rfl⟩, fun z => ⟨fun _ => ⟨rfl, rfl⟩, fun y => absurd ⟨z, ?_⟩ g⟩⟩)), Sm.rf⟩
    rw [hS.2.2.1.2] at y; exact Int32.not_le.mp y
theorem hv_pos {i : Nat} (h16 : Rs.length ≤ 16) : 0 ≤ hvA Rs T i := by
  obtain ⟨k, hk, e⟩ := hv_nat (Rs := Rs) (T := T) h16 i
  rw [e]; exact nI_pos' (by omega)
theorem pc_by (hA : At8 sh R 0) (hB : At9 sh R 169) (hS : S_sheet n I T) (hP : S_prc sh I R p s Rs) (x : Int32) : ∃ (I1 I2 : Nat → Nat → Int32) (v : Int32), rMet γ l m_X8_by [.ref 0, .int x] (sh, I, J, R) (sh, I1, J, R) (some (.int v)) ∧ rMet γ l m_X9_by [.ref 169, .int x] (sh, I1, J, R) (sh, I2, J, R) (some (.int v)) ∧ Sm Psc I I2 := by
  have hA5 : At5 sh R 5 := (At8_2 hA).2
  obtain ⟨hVp, ⟨hR, hA3, hp⟩, hC, h18, hM⟩ := id hP
  have h16 := hS.1.2.2.1
  by_cases g : ¬ x < 0 ∧ x < nI (yA T)
  · obtain ⟨i, hi, rfl⟩ := in_nat (by omega) g
    obtain ⟨I1, c1, c2, _⟩ := ct_harmRule (γ := γ) (l := l) (J := J) hA5 hA3 hS.1 hS.2.1 hVp hC hi
    have s1 : Sm Psc I I1 := c2.mono (fun b j q => Pp_sc hp q)
    obtain ⟨hVp', _, hC', h18', hM'⟩ := hP.sc s1
    obtain ⟨I2, d1, d2, d3⟩ := cm_harmOf (γ := γ) (l := l) (J := J) hB hS.1 (hS.sc s1).2.2 hVp hM' h18' hi
    refine ⟨I1, I2, _, e_X8_by (rW_pure (w_X8_by_0 hA ⟨_, ct_hasAct hA5 hS.2.1, p, hR, hA3, fun z => absurd g (bz_0.mp z), fun _ => ⟨_, _, c1, rfl, rfl⟩⟩)), e_X9_by (rW_pure (w_X9_by_0 hB ⟨fun z => absurd z g.1, fun _ => ⟨fun _ => ⟨_, _, d1, fun _ => ⟨rfl, ?_⟩, fun z => absurd (hv_pos hVp.1) z⟩, fun z => absurd ?_ z⟩⟩)), s1.tr (d3.mono (fun b j q => Fs_sc q.1))⟩
    · rw [d2]
    · rw [(hS.sc s1).2.2.1.2]; exact g.2
  · refine ⟨I, I, -1, e_X8_by (rW_pure (w_X8_by_0 hA ⟨_, ct_hasAct hA5 hS.2.1, p, hR, hA3, fun _ => ⟨rfl, rfl⟩, fun z => absurd (bz_0.mpr g) z⟩)), e_X9_by (rW_pure (w_X9_by_0 hB ⟨fun _ => ⟨rfl, rfl⟩, fun z => ⟨fun y => absurd ⟨z, ?_⟩ g, fun _ => ⟨rfl, rfl⟩⟩⟩)), Sm.rf⟩
    rw [hS.2.2.1.2] at y; exact y
theorem pc_ease (hA : At8 sh R 0) (hB : At9 sh R 169) (hS : S_sheet n I T) (hP : S_prc sh I R p s Rs) (x : Int32) : ∃ (I1 I2 : Nat → Nat → Int32) (v : Int32), rMet γ l m_X8_ease [.ref 0, .int x] (sh, I, J, R) (sh, I1, J, R) (some (.int v)) ∧ rMet γ l m_X9_ease [.ref 169, .int x] (sh, I1, J, R) (sh, I2, J, R) (some (.int v)) ∧ Sm Psc I I2 := by
  have hA5 : At5 sh R 5 := (At8_2 hA).2
  obtain ⟨hVp, ⟨hR, hA3, hp⟩, hC, h18, hM⟩ := id hP
  have h8 := hS.1.2.1
  by_cases g : ¬ x < 0 ∧ x < nI (yN T)
  · obtain ⟨i, hi, rfl⟩ := in_nat (by omega) g
    obtain ⟨I1, c1, c2, c3, c4⟩ := ct_weigh (γ := γ) (l := l) (J := J) hA5 hA3 (by omega) hS.1 hS.2.1 hVp hC hi
    have s1 : Sm Psc I I1 := c2.mono (fun b j q => Pw_sc hp q)
    obtain ⟨hVp', _, hC', h18', hM'⟩ := hP.sc s1
    obtain ⟨I2, d1, d2, d3⟩ := cm_easeOf (γ := γ) (l := l) (J := J) hB hS.1 (hS.sc s1).2.2 hVp hM' h18' hi
    refine ⟨I1, I2, (eaS Rs T i (yA T + 1)).2.1, e_X8_ease (rW_pure (w_X8_ease_0 hA ⟨_, ct_hasPart hA5 hS.2.1, p, hR, hA3, fun z => absurd g (bz_0.mp z), fun _ => ⟨_, c1, rfl, ?_⟩⟩)), e_X9_ease (rW_pure (w_X9_ease_0 hB ⟨_, ct_isPart hB (hS.sc s1).2.2, fun z => absurd g (bz_0.mp z), fun _ => ⟨_, _, d1, rfl, rfl⟩⟩)), s1.tr (d2.mono (fun b j q => Fs_sc q))⟩
    rw [← c3]
  · exact ⟨I, I, -1, e_X8_ease (rW_pure (w_X8_ease_0 hA ⟨_, ct_hasPart hA5 hS.2.1, p, hR, hA3, fun _ => ⟨rfl, rfl⟩, fun z => absurd (bz_0.mpr g) z⟩)), e_X9_ease (rW_pure (w_X9_ease_0 hB ⟨_, ct_isPart hB hS.2.2, fun _ => ⟨rfl, rfl⟩, fun z => absurd (bz_0.mpr g) z⟩)), Sm.rf⟩
theorem pc_undone (hA : At8 sh R 0) (hB : At9 sh R 169) (hS : S_sheet n I T) (hP : S_prc sh I R p s Rs) (x : Int32) : ∃ (I1 I2 : Nat → Nat → Int32) (v : Int32), rMet γ l m_X8_undone [.ref 0, .int x] (sh, I, J, R) (sh, I1, J, R) (some (.int v)) ∧ rMet γ l m_X9_undone [.ref 169, .int x] (sh, I1, J, R) (sh, I2, J, R) (some (.int v)) ∧ Sm Psc I I2 := by
  have hA5 : At5 sh R 5 := (At8_2 hA).2
  obtain ⟨hVp, ⟨hR, hA3, hp⟩, hC, h18, hM⟩ := id hP
  have h8 := hS.1.2.1
  have h16 := hS.1.2.2.1
  by_cases g : ¬ x < 0 ∧ x < nI (yN T)
  · obtain ⟨i, hi, rfl⟩ := in_nat (by omega) g
    obtain ⟨I1, c1, c2, c3, c4⟩ := ct_weigh (γ := γ) (l := l) (J := J) hA5 hA3 (by omega) hS.1 hS.2.1 hVp hC hi
    have s1 : Sm Psc I I1 := c2.mono (fun b j q => Pw_sc hp q)
    obtain ⟨hVp', _, hC', h18', hM'⟩ := hP.sc s1
    obtain ⟨I2, d1, d2, d3⟩ := cm_easeOf (γ := γ) (l := l) (J := J) hB hS.1 (hS.sc s1).2.2 hVp hM' h18' hi
    have hn := (eaS_nat (Rs := Rs) (T := T) (i := i) hVp.1 (yA T + 1) (by omega)).2
    refine ⟨I1, I2, (eaS Rs T i (yA T + 1)).2.2, e_X8_undone (rW_pure (w_X8_undone_0 hA ⟨_, ct_hasPart hA5 hS.2.1, p, hR, hA3, fun z => absurd g (bz_0.mp z), fun _ => ⟨_, c1, rfl, ?_⟩⟩)), e_X9_undone (rW_pure (w_X9_undone_0 hB ⟨_, ct_isPart hB (hS.sc s1).2.2, fun z => absurd g (bz_0.mp z), fun _ => ⟨_, _, d1, fun z => ⟨rfl, ?_⟩, fun z => ⟨rfl, ?_⟩⟩⟩)), s1.tr (d2.mono (fun b j q => Fs_sc q))⟩
    · rw [← c4]
    · rcases hn with hn | hn
      · rw [hn.2]
      · exact absurd z hn
    · rw [d3 z]
  · exact ⟨I, I, -1, e_X8_undone (rW_pure (w_X8_undone_0 hA ⟨_, ct_hasPart hA5 hS.2.1, p, hR, hA3, fun _ => ⟨rfl, rfl⟩, fun z => absurd (bz_0.mpr g) z⟩)), e_X9_undone (rW_pure (w_X9_undone_0 hB ⟨_, ct_isPart hB hS.2.2, fun _ => ⟨rfl, rfl⟩, fun z => absurd (bz_0.mpr g) z⟩)), Sm.rf⟩
/-! undo -/
def undoT (T : Sht) : Sht := (yN T, yA T - 1, yP T, yC T, yD T, yS T, yW T, yK T)
theorem V_undo (h : V_sheet n T) : V_sheet n (undoT T) := by
  obtain ⟨h1, h2, h3, h4, h5, h6, h7, h8⟩ := h
  refine ⟨h1, h2, ?_, h4, h5, fun i hi => h6 i ?_, h7, fun i hi => h8 i ?_⟩
  · show yA T - 1 ≤ 16; omega
  · have : i ≤ yA T - 1 := hi; omega
  · have : i < yA T - 1 := hi; omega
theorem C_undo (h : C_sheet I 5 T) : C_sheet (up I 5 1 (nI (yA T - 1))) 5 (undoT T) := by
  obtain ⟨⟨h1, h2, h3, h4⟩, h5, h6, h7⟩ := h
  have off : ∀ b j, ¬ (b = 5 ∧ j = 1) → up I 5 1 (nI (yA T - 1)) b j = I b j := fun b j q => by rw [up_at, if_neg q]
  refine ⟨⟨(off _ _ (by omega)).trans h1, ?_, (off _ _ (by omega)).trans h3, (off _ _ (by omega)).trans h4⟩, fun p hp => ⟨(off _ _ (by omega)).trans (h5 p hp).1, (off _ _ (by omega)).trans (h5 p hp).2⟩, fun i hi => ?_, fun i hi => ?_⟩
  · rw [up_at, if_pos ⟨rfl, rfl⟩]; rfl
  · have hi' : i ≤ yA T - 1 := hi
    exact (h6 i (by omega)).loc (fun b q1 q2 => up_ne (by omega))
  · have hi' : i < yA T - 1 := hi
    obtain ⟨r1, r2, r3, r4, r5⟩ := h7 i (by omega)
    exact ⟨(off _ _ (by omega)).trans r1, (off _ _ (by omega)).trans r2, (off _ _ (by omega)).trans r3, (off _ _ (by omega)).trans r4, (off _ _ (by omega)).trans r5⟩
theorem M_undo (hV : V_sheet n T) (h : M_sheet I 169 T) : M_sheet (up I 169 48 (nI (yA T - 1))) 169 (undoT T) := by
  obtain ⟨⟨h1, h2⟩, h5, h3, h6, h7⟩ := h
  have off : ∀ b j, ¬ (b = 169 ∧ j = 48) → up I 169 48 (nI (yA T - 1)) b j = I b j := fun b j q => by rw [up_at, if_neg q]
  refine ⟨⟨(off _ _ (by omega)).trans h1, ?_⟩, fun p hp => ⟨(off _ _ (by omega)).trans (h5 p hp).1, (off _ _ (by omega)).trans (h5 p hp).2.1, (off _ _ (by omega)).trans (h5 p hp).2.2⟩, fun f hf => (off _ _ (by omega)).trans (h3 f hf), fun i hi => ?_, fun i hi => ?_⟩
  · rw [up_at, if_pos ⟨rfl, rfl⟩]; rfl
  · have hi' : i ≤ yA T - 1 := hi
    have hn := (hV.2.2.2.2.2.1 i (by omega)).2
    have h8 := hV.2.1
    exact (h6 i (by omega)).loc (by omega) (off _ _ (by omega)) (off _ _ (by omega)) (fun b j q1 _ _ => off _ _ (by omega))
  · have hi' : i < yA T - 1 := hi
    obtain ⟨r1, r2, r3, r4, r5⟩ := h7 i (by omega)
    exact ⟨(off _ _ (by omega)).trans r1, (off _ _ (by omega)).trans r2, (off _ _ (by omega)).trans r3, (off _ _ (by omega)).trans r4, (off _ _ (by omega)).trans r5⟩
def Pus (b j : Nat) : Prop := Psc b j ∨ Psh b j
theorem pc_undo (hA : At8 sh R 0) (hB : At9 sh R 169) (hS : S_sheet n I T) (hP : S_prc sh I R p s Rs) : ∃ (I1 I2 : Nat → Nat → Int32) (v : Int32), rMet γ l m_X8_undo [.ref 0] (sh, I, J, R) (sh, I1, J, R) (some (.int v)) ∧ rMet γ l m_X9_undo [.ref 169] (sh, I1, J, R) (sh, I2, J, R) (some (.int v)) ∧ (∃ T', S_sheet n I2 T' ∧ yN T' = yN T) ∧ Sm Pus I I2 := by
  have hA5 : At5 sh R 5 := (At8_2 hA).2
  obtain ⟨hVp, ⟨hR, hA3, hp⟩, hC, h18, hM⟩ := id hP
  have h16 := hS.1.2.2.1
  have e5 : I (0 + 5) 1 = nI (yA T) := hS.2.1.1.2.1
  by_cases g : yA T = 0
  · refine ⟨I, I, -1, e_X8_undo (rW_pure (w_X8_undo_0 hA ⟨p, hR, hA3, fun _ => ⟨rfl, rfl⟩, fun z => absurd ?_ z⟩)), e_X9_undo (rW_pure (w_X9_undo_0 hB ⟨fun _ => ⟨rfl, rfl⟩, fun z => absurd ?_ z⟩)), ⟨T, hS, rfl⟩, Sm.rf⟩
    · rw [e5, g]; decide
    · rw [hS.2.2.1.2, g]; decide
  · have hi : yA T - 1 < yA T := by omega
    obtain ⟨I1, c1, c2⟩ := ct_harmOf (γ := γ) (l := l) (J := J) hA5 hA3 (by omega) hS.1 hS.2.1 hVp hC hi
    have s1 : Sm Psc I I1 := c2.mono (fun b j q => Pp_sc hp q)
    have hS1 := hS.sc s1
    have hm1 : M_sheet (up I1 5 1 (nI (yA T - 1))) 169 T := hS1.2.2.loc hS.1 (fun b j q _ => by rw [up_at, if_neg (by unfold Fm at q; omega)])
    obtain ⟨hVp', _, hC', h18', hM'⟩ := hP.sc s1
    have hM2 : PrM (up I1 5 1 (nI (yA T - 1))) 169 s Rs := hM'.loc (fun b j q1 q2 => by rw [up_at, if_neg (by omega)])
    obtain ⟨I2, d1, d2, d3⟩ := cm_harmOf (γ := γ) (l := l) (J := J) hB hS.1 hm1 hVp hM2 (by rw [up_at, if_neg (by omega)]; exact h18') hi
    have e1 : nI (yA T) - (1 : Int32) = nI (yA T - 1) := pk_sub (b := 1) (by omega)
    have hC2 : C_sheet I2 5 (undoT T) := (C_undo hS1.2.1).loc (V_undo hS.1).2.2.1 (fun b j q _ => d3 b j (fun w => by have w := w.1; unfold Fs at w; unfold Fc at q; omega))
    have h48 : I2 169 48 = nI (yA T) := by rw [d3 _ _ (by unfold Fs; omega)]; exact hm1.1.2
    have hm2 : M_sheet I2 169 T := hm1.loc hS.1 (fun b j q _ => d3 b j (fun w => by have w := w.1; unfold Fs at w; unfold Fm at q; omega))
    refine ⟨up I1 5 1 (nI (yA T - 1)), up I2 169 48 (nI (yA T - 1)), hvA Rs T (yA T - 1), e_X8_undo (rW_pure (w_X8_undo_0 hA ⟨p, hR, hA3, fun z => absurd z ?_, fun _ => ⟨I1, hvA Rs T (yA T - 1), ?_, ?_, rfl⟩⟩)), e_X9_undo (rW_pure (w_X9_undo_0 hB ⟨fun z => absurd z ?_, fun _ => ⟨I2, hvA Rs T (yA T - 1), ?_, ?_, rfl⟩⟩)), ⟨undoT T, ⟨V_undo hS.1, hC2.loc (V_undo hS.1).2.2.1 (fun b j q _ => by rw [up_at, if_neg (by unfold Fc at q; omega)]), M_undo hS.1 hm2⟩, rfl⟩, fun b j q => ?_⟩
    · rw [e5]; exact nI_ne0 (by omega) (by omega)
    · rw [e5, e1]; exact c1
    · rw [show I1 (0 + 5) 1 = nI (yA T) from hS1.2.1.1.2.1, e1]
    · rw [hm1.1.2]; exact nI_ne0 (by omega) (by omega)
    · rw [hm1.1.2, e1]; exact d1
    · rw [h48, e1]
    · unfold Pus at q
      have q1 : ¬ Psc b j := fun w => q (Or.inl w)
      have q2 : ¬ (b = 5 ∧ j = 1) := fun w => q (Or.inr (Or.inl (by unfold Fc; omega)))
      have q3 : ¬ (b = 169 ∧ j = 48) := fun w => q (Or.inr (Or.inr (by unfold Fm; omega)))
      rw [up_at, if_neg q3, d3 b j (fun w => q1 (Fs_sc w.1)), up_at, if_neg q2, s1 b j q1]
/-! part -/
theorem pc_part (hA : At8 sh R 0) (hB : At9 sh R 169) (hS : S_sheet n I T) (hP : S_prc sh I R p s Rs) (x y : Int32) : ∃ (I1 I2 : Nat → Nat → Int32) (v : Int32), rMet γ l m_X8_part [.ref 0, .int x, .int y] (sh, I, J, R) (sh, I1, J, R) (some (.int v)) ∧ rMet γ l m_X9_part [.ref 169, .int x, .int y] (sh, I1, J, R) (sh, I2, J, R) (some (.int v)) ∧ Sm Psc I I2 := by
  have hA5 : At5 sh R 5 := (At8_2 hA).2
  obtain ⟨hVp, ⟨hR, hA3, hp⟩, hC, h18, hM⟩ := id hP
  have h8 := hS.1.2.1
  have h16 := hS.1.2.2.1
  obtain ⟨hPk, hN⟩ := V_now hS.1
  by_cases g : ¬ x < 0 ∧ x < nI (yN T)
  · obtain ⟨i, hi, rfl⟩ := in_nat (by omega) g
    have hB5 := (At5_p hA5 (yA T) (by omega)).2
    have hv : vp_in (nI i) 8 := vp_in_nI (by omega) (by decide)
    have hcl : (nI i).toNatClampNeg = i := nI_clamp (by omega)
    obtain ⟨q1, q2, q3⟩ := (C_now hS.2.1).2.2.1 i (by omega)
    obtain ⟨m1, m2, m3, m4, m5⟩ := mM (M_now hS.2.2) (show yA T < 22 by omega) hPk.2.1 (show i < pN (nowP T) by omega)
    have hD : yD T < 2 ^ 31 := Nat.lt_of_lt_of_le hS.1.2.2.2.2.1 (Nat.pow_le_pow_right (by omega) (by omega))
    have e5 : ∀ j, I (0 + 5) j = I 5 j := fun j => rfl
    have e6 : I (0 + 5 + 1) i = nI (yS T i) := (hS.2.1.2.1 i (by omega)).1
    have e7 : I (0 + 5 + 2) i = yW T i := (hS.2.1.2.1 i (by omega)).2
    have e53 : I (0 + 5) 3 = nI (yD T) := hS.2.1.1.2.2.2
    have tw : (2 : Int32) * nI i = nI (2 * i) := pk_mul 2 i
    have nzb : ∀ b : Bool, (nz b = 0 → (0 : Int32) = nz b) ∧ (¬ nz b = 0 → (1 : Int32) = nz b) := fun b => by cases b <;> exact ⟨fun z => by first | rfl | exact absurd z (by decide), fun z => by first | rfl | exact absurd (by decide) z⟩
    by_cases y0 : y = 0
    · subst y0
      refine ⟨I, I, nI (pC (nowP T) i), e_X8_part (rW_pure (w_X8_part_0 hA ⟨_, ct_hasPart hA5 hS.2.1, p, hR, hA3, fun z => absurd g (bz_0.mp z), fun _ => ⟨_, ct_packet hA5 h16 hS.2.1.1.2.1, hB5, fun _ => ⟨hv, rfl, ?_⟩, fun z => absurd rfl z⟩⟩)), e_X9_part (rW_pure (w_X9_part_0 hB ⟨_, ct_isPart hB hS.2.2, fun z => absurd g (bz_0.mp z), fun _ => ⟨fun _ => ?_, fun z => absurd rfl z⟩⟩)), Sm.rf⟩
      · rw [hcl, q1]
      · rw [hS.2.2.1.2, m1, m3]; exact ⟨m2, rfl, rfl⟩
    by_cases y1 : y = 1
    · subst y1
      refine ⟨I, I, nI (pL (nowP T) i), e_X8_part (rW_pure (w_X8_part_0 hA ⟨_, ct_hasPart hA5 hS.2.1, p, hR, hA3, fun z => absurd g (bz_0.mp z), fun _ => ⟨_, ct_packet hA5 h16 hS.2.1.1.2.1, hB5, fun z => absurd z y0, fun _ => ⟨fun _ => ⟨hv, rfl, ?_⟩, fun z => absurd rfl z⟩⟩⟩)), e_X9_part (rW_pure (w_X9_part_0 hB ⟨_, ct_isPart hB hS.2.2, fun z => absurd g (bz_0.mp z), fun _ => ⟨fun z => absurd z y0, fun _ => ⟨fun _ => ?_, fun z => absurd rfl z⟩⟩⟩)), Sm.rf⟩
      · rw [hcl, q2]
      · rw [hS.2.2.1.2, m1, m4]; exact ⟨m2, rfl, rfl⟩
    by_cases y2 : y = 2
    · subst y2
      refine ⟨I, I, nz (pU (nowP T) i), e_X8_part (rW_pure (w_X8_part_0 hA ⟨_, ct_hasPart hA5 hS.2.1, p, hR, hA3, fun z => absurd g (bz_0.mp z), fun _ => ⟨_, ct_packet hA5 h16 hS.2.1.1.2.1, hB5, fun z => absurd z y0, fun _ => ⟨fun z => absurd z y1, fun _ => ⟨fun _ => ⟨hv, ?_⟩, fun z => absurd rfl z⟩⟩⟩⟩)), e_X9_part (rW_pure (w_X9_part_0 hB ⟨_, ct_isPart hB hS.2.2, fun z => absurd g (bz_0.mp z), fun _ => ⟨fun z => absurd z y0, fun _ => ⟨fun z => absurd z y1, fun _ => ⟨fun _ => ?_, fun z => absurd rfl z⟩⟩⟩⟩)), Sm.rf⟩
      · rw [hcl, q3]; exact ⟨fun z => ⟨rfl, by rw [← (nzb _).1 z]⟩, fun z => ⟨rfl, by rw [← (nzb _).2 z]⟩⟩
      · rw [hS.2.2.1.2, m1, m5]; exact ⟨m2, fun z => ⟨rfl, by rw [← (nzb _).1 z]⟩, fun z => ⟨rfl, by rw [← (nzb _).2 z]⟩⟩
    by_cases y3 : y = 3
    · subst y3
      refine ⟨I, I, nI (yS T i), e_X8_part (rW_pure (w_X8_part_0 hA ⟨_, ct_hasPart hA5 hS.2.1, p, hR, hA3, fun z => absurd g (bz_0.mp z), fun _ => ⟨_, ct_packet hA5 h16 hS.2.1.1.2.1, hB5, fun z => absurd z y0, fun _ => ⟨fun z => absurd z y1, fun _ => ⟨fun z => absurd z y2, fun _ => ⟨fun _ => ⟨hv, rfl, ?_⟩, fun z => absurd rfl z⟩⟩⟩⟩⟩)), e_X9_part (rW_pure (w_X9_part_0 hB ⟨_, ct_isPart hB hS.2.2, fun z => absurd g (bz_0.mp z), fun _ => ⟨fun z => absurd z y0, fun _ => ⟨fun z => absurd z y1, fun _ => ⟨fun z => absurd z y2, fun _ => ⟨fun _ => ⟨hv, rfl, ?_⟩, fun z => absurd rfl z⟩⟩⟩⟩⟩)), Sm.rf⟩
      · rw [hcl, e6]
      · rw [hcl, (hS.2.2.2.1 i (by omega)).2.1]
    by_cases y4 : y = 4
    · subst y4
      refine ⟨I, I, yW T i, e_X8_part (rW_pure (w_X8_part_0 hA ⟨_, ct_hasPart hA5 hS.2.1, p, hR, hA3, fun z => absurd g (bz_0.mp z), fun _ => ⟨_, ct_packet hA5 h16 hS.2.1.1.2.1, hB5, fun z => absurd z y0, fun _ => ⟨fun z => absurd z y1, fun _ => ⟨fun z => absurd z y2, fun _ => ⟨fun z => absurd z y3, fun _ => ⟨fun _ => ⟨hv, rfl, ?_⟩, fun z => absurd rfl z⟩⟩⟩⟩⟩⟩)), e_X9_part (rW_pure (w_X9_part_0 hB ⟨_, ct_isPart hB hS.2.2, fun z => absurd g (bz_0.mp z), fun _ => ⟨fun z => absurd z y0, fun _ => ⟨fun z => absurd z y1, fun _ => ⟨fun z => absurd z y2, fun _ => ⟨fun z => absurd z y3, fun _ => ⟨fun _ => ⟨hv, rfl, ?_⟩, fun z => absurd rfl z⟩⟩⟩⟩⟩⟩)), Sm.rf⟩
      · rw [hcl, e7]
      · rw [hcl, (hS.2.2.2.1 i (by omega)).2.2]
    by_cases y5 : y = 5
    · subst y5
      obtain ⟨I1, c1, c2⟩ := ct_sightOf (γ := γ) (l := l) (J := J) hA5 hA3 hS.1 hS.2.1 hVp hC hi
      have s1 : Sm Psc I I1 := c2.mono (fun b j q => Pp_sc hp q)
      obtain ⟨hVp', _, hC', h18', hM'⟩ := hP.sc s1
      have hS1 := hS.sc s1
      obtain ⟨I2, d1, d2⟩ := cm_peepOf (γ := γ) (l := l) (J := J) (left := yA T) hB hS.1 hS1.2.2 hVp hM' h18' (Nat.le_refl _) hi
      have c8 : rMet γ l m_X8_part [.ref 0, .int (nI i), .int 5] (sh, I, J, R) (sh, I1, J, R) (some (.int (@ite _ (rdP (nowP T) i) (Classical.propDecidable _) 1 (if ppJ Rs T (yA T) i = -1 then 0 else 2)))) :=
        e_X8_part (rW_pure (w_X8_part_0 hA ⟨_, ct_hasPart hA5 hS.2.1, p, hR, hA3, fun z => absurd g (bz_0.mp z), fun _ => ⟨_, ct_packet hA5 h16 hS.2.1.1.2.1, hB5, fun z => absurd z y0, fun _ => ⟨fun z => absurd z y1, fun _ => ⟨fun z => absurd z y2, fun _ => ⟨fun z => absurd z y3, fun _ => ⟨fun z => absurd z y4, fun _ => ⟨fun _ => ⟨_, _, c1, rfl, rfl⟩, fun z => absurd rfl z⟩⟩⟩⟩⟩⟩⟩))
      by_cases hr : rdP (nowP T) i
      · rw [if_pos hr] at c8
        refine ⟨I1, I1, 1, c8, e_X9_part (rW_pure (w_X9_part_0 hB ⟨_, ct_isPart hB hS1.2.2, fun z => absurd g (bz_0.mp z), fun _ => ⟨fun z => absurd z y0, fun _ => ⟨fun z => absurd z y1, fun _ => ⟨fun z => absurd z y2, fun _ => ⟨fun z => absurd z y3, fun _ => ⟨fun z => absurd z y4, fun _ => ⟨fun _ => ?_, fun z => absurd rfl z⟩⟩⟩⟩⟩⟩⟩)), s1⟩
        rw [hS1.2.2.1.2]
        exact ⟨_, ct_isRead hB (by omega) hPk (M_now hS1.2.2) (by omega), fun z => absurd hr (bz_0.mp z), fun _ => ⟨rfl, rfl⟩⟩
      · rw [if_neg hr] at c8
        refine ⟨I1, I2, if ppJ Rs T (yA T) i = -1 then 0 else 2, c8, e_X9_part (rW_pure (w_X9_part_0 hB ⟨_, ct_isPart hB hS1.2.2, fun z => absurd g (bz_0.mp z), fun _ => ⟨fun z => absurd z y0, fun _ => ⟨fun z => absurd z y1, fun _ => ⟨fun z => absurd z y2, fun _ => ⟨fun z => absurd z y3, fun _ => ⟨fun z => absurd z y4, fun _ => ⟨fun _ => ?_, fun z => absurd rfl z⟩⟩⟩⟩⟩⟩⟩)), s1.tr (d2.mono (fun b j t => by unfold Psc; omega))⟩
        rw [hS1.2.2.1.2]
        refine ⟨_, ct_isRead hB (by omega) hPk (M_now hS1.2.2) (by omega), fun _ => ⟨I2, _, d1, fun z => ⟨rfl, ?_⟩, fun z => ⟨rfl, ?_⟩⟩, fun z => absurd (bz_0.mpr hr) z⟩
        · rw [if_pos z]
        · rw [if_neg z]
    by_cases y6 : y = 6
    · subst y6
      refine ⟨I, I, nz ((yD T).testBit (2 * i)), e_X8_part (rW_pure (w_X8_part_0 hA ⟨_, ct_hasPart hA5 hS.2.1, p, hR, hA3, fun z => absurd g (bz_0.mp z), fun _ => ⟨_, ct_packet hA5 h16 hS.2.1.1.2.1, hB5, fun z => absurd z y0, fun _ => ⟨fun z => absurd z y1, fun _ => ⟨fun z => absurd z y2, fun _ => ⟨fun z => absurd z y3, fun _ => ⟨fun z => absurd z y4, fun _ => ⟨fun z => absurd z y5, fun _ => ⟨fun _ => ⟨rfl, ?_⟩, fun z => absurd rfl z⟩⟩⟩⟩⟩⟩⟩⟩)), e_X9_part (rW_pure (w_X9_part_0 hB ⟨_, ct_isPart hB hS.2.2, fun z => absurd g (bz_0.mp z), fun _ => ⟨fun z => absurd z y0, fun _ => ⟨fun z => absurd z y1, fun _ => ⟨fun z => absurd z y2, fun _ => ⟨fun z => absurd z y3, fun _ => ⟨fun z => absurd z y4, fun _ => ⟨fun z => absurd z y5, fun _ => ⟨fun _ => ?_, fun z => absurd rfl z⟩⟩⟩⟩⟩⟩⟩⟩)), Sm.rf⟩
      · rw [e53, tw, bt_bit (by omega) hD]
      · rw [tw, nI_clamp (by omega), hS.2.2.2.2.1 _ (by omega)]
        exact ⟨vp_in_nI (by omega) (by decide), fun z => ⟨rfl, by rw [← (nzb _).1 z]⟩, fun z => ⟨rfl, by rw [← (nzb _).2 z]⟩⟩
    by_cases y7 : y = 7
    · subst y7
      refine ⟨I, I, nz ((yD T).testBit (2 * i + 1)), e_X8_part (rW_pure (w_X8_part_0 hA ⟨_, ct_hasPart hA5 hS.2.1, p, hR, hA3, fun z => absurd g (bz_0.mp z), fun _ => ⟨_, ct_packet hA5 h16 hS.2.1.1.2.1, hB5, fun z => absurd z y0, fun _ => ⟨fun z => absurd z y1, fun _ => ⟨fun z => absurd z y2, fun _ => ⟨fun z => absurd z y3, fun _ => ⟨fun z => absurd z y4, fun _ => ⟨fun z => absurd z y5, fun _ => ⟨fun z => absurd z y6, fun _ => ⟨fun _ => ⟨rfl, ?_⟩, fun z => absurd rfl z⟩⟩⟩⟩⟩⟩⟩⟩⟩)), e_X9_part (rW_pure (w_X9_part_0 hB ⟨_, ct_isPart hB hS.2.2, fun z => absurd g (bz_0.mp z), fun _ => ⟨fun z => absurd z y0, fun _ => ⟨fun z => absurd z y1, fun _ => ⟨fun z => absurd z y2, fun _ => ⟨fun z => absurd z y3, fun _ => ⟨fun z => absurd z y4, fun _ => ⟨fun z => absurd z y5, fun _ => ⟨fun z => absurd z y6, fun _ => ⟨fun _ => ?_, fun z => absurd rfl z⟩⟩⟩⟩⟩⟩⟩⟩⟩)), Sm.rf⟩
      · rw [e53, tw, nI_1, bt_bit (by omega) hD]
      · rw [tw, nI_1, nI_clamp (by omega), hS.2.2.2.2.1 _ (by omega)]
        exact ⟨vp_in_nI (by omega) (by decide), fun z => ⟨rfl, by rw [← (nzb _).1 z]⟩, fun z => ⟨rfl, by rw [← (nzb _).2 z]⟩⟩
    · exact ⟨I, I, -1, e_X8_part (rW_pure (w_X8_part_0 hA ⟨_, ct_hasPart hA5 hS.2.1, p, hR, hA3, fun z => absurd g (bz_0.mp z), fun _ => ⟨_, ct_packet hA5 h16 hS.2.1.1.2.1, hB5, fun z => absurd z y0, fun _ => ⟨fun z => absurd z y1, fun _ => ⟨fun z => absurd z y2, fun _ => ⟨fun z => absurd z y3, fun _ => ⟨fun z => absurd z y4, fun _ => ⟨fun z => absurd z y5, fun _ => ⟨fun z => absurd z y6, fun _ => ⟨fun z => absurd z y7, fun _ => ⟨rfl, rfl⟩⟩⟩⟩⟩⟩⟩⟩⟩⟩)), e_X9_part (rW_pure (w_X9_part_0 hB ⟨_, ct_isPart hB hS.2.2, fun z => absurd g (bz_0.mp z), fun _ => ⟨fun z => absurd z y0, fun _ => ⟨fun z => absurd z y1, fun _ => ⟨fun z => absurd z y2, fun _ => ⟨fun z => absurd z y3, fun _ => ⟨fun z => absurd z y4, fun _ => ⟨fun z => absurd z y5, fun _ => ⟨fun z => absurd z y6, fun _ => ⟨fun z => absurd z y7, fun _ => ⟨rfl, rfl⟩⟩⟩⟩⟩⟩⟩⟩⟩⟩)), Sm.rf⟩
  · exact ⟨I, I, -1, e_X8_part (rW_pure (w_X8_part_0 hA ⟨_, ct_hasPart hA5 hS.2.1, p, hR, hA3, fun _ => ⟨rfl, rfl⟩, fun z => absurd (bz_0.mpr g) z⟩)), e_X9_part (rW_pure (w_X9_part_0 hB ⟨_, ct_isPart hB hS.2.2, fun _ => ⟨rfl, rfl⟩, fun z => absurd (bz_0.mpr g) z⟩)), Sm.rf⟩
/-! count -/
theorem pc_count (hA : At8 sh R 0) (hB : At9 sh R 169) (hS : S_sheet n I T) (hP : S_prc sh I R p s Rs) (t1 : I 1 1 = I 169 2) (w0 : I 142 0 = I 169 69) (w1 : I 142 1 = I 169 71) (w2 : I 142 2 = I 169 73) (x : Int32) : ∃ (I1 I2 : Nat → Nat → Int32) (v : Int32), rMet γ l m_X8_count [.ref 0, .int x] (sh, I, J, R) (sh, I1, J, R) (some (.int v)) ∧ rMet γ l m_X9_count [.ref 169, .int x] (sh, I1, J, R) (sh, I2, J, R) (some (.int v)) ∧ Sm Psc I I2 := by
  have hA5 : At5 sh R 5 := (At8_2 hA).2
  obtain ⟨hVp, ⟨hR, hA3, hp⟩, hC, h18, hM⟩ := id hP
  have h8 := hS.1.2.1
  have h16 := hS.1.2.2.1
  have hB5 := (At5_p hA5 (yA T) (by omega)).2
  have hs2 := hM.1
  have a5 : I (0 + 5) 0 = I 169 39 := hS.2.1.1.1.trans hS.2.2.1.1.symm
  have a51 : I (0 + 5) 1 = I 169 48 := hS.2.1.1.2.1.trans hS.2.2.1.2.symm
  by_cases y0 : x = 0
  · subst y0
    exact ⟨I, I, I 169 39, e_X8_count (rW_pure (w_X8_count_0 hA ⟨p, hR, hA3, p, hR, hA3, fun _ => ⟨rfl, by rw [a5]⟩, fun z => absurd rfl z⟩)), e_X9_count (rW_pure (w_X9_count_0 hB ⟨fun _ => ⟨rfl, rfl⟩, fun z => absurd rfl z⟩)), Sm.rf⟩
  by_cases y1 : x = 1
  · subst y1
    refine ⟨I, I, nI (pW (nowP T)), e_X8_count (rW_pure (w_X8_count_0 hA ⟨p, hR, hA3, p, hR, hA3, fun z => absurd z y0, fun _ => ⟨fun _ => ⟨_, ct_packet hA5 h16 hS.2.1.1.2.1, hB5, rfl, ?_⟩, fun z => absurd rfl z⟩⟩)), e_X9_count (rW_pure (w_X9_count_0 hB ⟨fun z => absurd z y0, fun _ => ⟨fun _ => ?_, fun z => absurd rfl z⟩⟩)), Sm.rf⟩
    · rw [(C_now hS.2.1).2.1]
    · rw [hS.2.2.1.2, nI_clamp (by omega), (M_now hS.2.2).2.1]; exact ⟨vp_in_nI (by omega) (by decide), rfl, rfl⟩
  by_cases y2 : x = 2
  · subst y2
    exact ⟨I, I, I 169 48, e_X8_count (rW_pure (w_X8_count_0 hA ⟨p, hR, hA3, p, hR, hA3, fun z => absurd z y0, fun _ => ⟨fun z => absurd z y1, fun _ => ⟨fun _ => ⟨rfl, by rw [a51]⟩, fun z => absurd rfl z⟩⟩⟩)), e_X9_count (rW_pure (w_X9_count_0 hB ⟨fun z => absurd z y0, fun _ => ⟨fun z => absurd z y1, fun _ => ⟨fun _ => ⟨rfl, rfl⟩, fun z => absurd rfl z⟩⟩⟩)), Sm.rf⟩
  by_cases y3 : x = 3
  · subst y3
    refine ⟨I, I, nI Rs.length, e_X8_count (rW_pure (w_X8_count_0 hA ⟨p, hR, hA3, p, hR, hA3, fun z => absurd z y0, fun _ => ⟨fun z => absurd z y1, fun _ => ⟨fun z => absurd z y2, fun _ => ⟨fun _ => ⟨rfl, by rw [hC.1]⟩, fun z => absurd rfl z⟩⟩⟩⟩)), e_X9_count (rW_pure (w_X9_count_0 hB ⟨fun z => absurd z y0, fun _ => ⟨fun z => absurd z y1, fun _ => ⟨fun z => absurd z y2, fun _ => ⟨fun _ => ?_, fun z => absurd rfl z⟩⟩⟩⟩)), Sm.rf⟩
    rw [h18, nI_clamp (by omega), hM.2.1]; exact ⟨vp_in_nI hs2 (by decide), rfl, rfl⟩
  by_cases y4 : x = 4
  · subst y4
    exact ⟨I, I, I 169 2, e_X8_count (rW_pure (w_X8_count_0 hA ⟨p, hR, hA3, p, hR, hA3, fun z => absurd z y0, fun _ => ⟨fun z => absurd z y1, fun _ => ⟨fun z => absurd z y2, fun _ => ⟨fun z => absurd z y3, fun _ => ⟨fun _ => ⟨rfl, by rw [show I (0 + 1) 1 = I 169 2 from t1]⟩, fun z => absurd rfl z⟩⟩⟩⟩⟩)), e_X9_count (rW_pure (w_X9_count_0 hB ⟨fun z => absurd z y0, fun _ => ⟨fun z => absurd z y1, fun _ => ⟨fun z => absurd z y2, fun _ => ⟨fun z => absurd z y3, fun _ => ⟨fun _ => ⟨rfl, rfl⟩, fun z => absurd rfl z⟩⟩⟩⟩⟩)), Sm.rf⟩
  by_cases y5 : x = 5
  · subst y5
    obtain ⟨I1, c1, c2⟩ := ct_harmOfAll (γ := γ) (l := l) (J := J) hA5 hA3 (by omega) hS.1 hS.2.1 hVp hC
    have s1 : Sm Psc I I1 := c2.mono (fun b j q => Pw_sc hp q)
    obtain ⟨hVp', _, hC', h18', hM'⟩ := hP.sc s1
    obtain ⟨I2, d1, d2⟩ := rW_ex (w_X9_count_0 hB (x1 := 5) ⟨fun z => absurd z y0, fun _ => ⟨fun z => absurd z y1, fun _ => ⟨fun z => absurd z y2, fun _ => ⟨fun z => absurd z y3, fun _ => ⟨fun z => absurd z y4, fun _ => ⟨fun _ => mcount_loop (γ := γ) (l := l) (J := J) hB hS.1 (hS.sc s1).2.2 hVp hM' h18' (yA T) 0 I1 (by omega) Sm.rf, fun z => absurd rfl z⟩⟩⟩⟩⟩⟩)
    exact ⟨I1, I2, _, e_X8_count (rW_pure (w_X8_count_0 hA ⟨p, hR, hA3, p, hR, hA3, fun z => absurd z y0, fun _ => ⟨fun z => absurd z y1, fun _ => ⟨fun z => absurd z y2, fun _ => ⟨fun z => absurd z y3, fun _ => ⟨fun z => absurd z y4, fun _ => ⟨fun _ => ⟨_, _, c1, rfl, rfl⟩, fun z => absurd rfl z⟩⟩⟩⟩⟩⟩)), e_X9_count d1, s1.tr (d2.mono (fun b j q => Fs_sc q))⟩
  by_cases y6 : x = 6
  · subst y6
    exact ⟨I, I, I 169 69, e_X8_count (rW_pure (w_X8_count_0 hA ⟨p, hR, hA3, p, hR, hA3, fun z => absurd z y0, fun _ => ⟨fun z => absurd z y1, fun _ => ⟨fun z => absurd z y2, fun _ => ⟨fun z => absurd z y3, fun _ => ⟨fun z => absurd z y4, fun _ => ⟨fun z => absurd z y5, fun _ => ⟨fun _ => ⟨rfl, by rw [show I (0 + 142) 0 = I 169 69 from w0]⟩, fun z => absurd rfl z⟩⟩⟩⟩⟩⟩⟩)), e_X9_count (rW_pure (w_X9_count_0 hB ⟨fun z => absurd z y0, fun _ => ⟨fun z => absurd z y1, fun _ => ⟨fun z => absurd z y2, fun _ => ⟨fun z => absurd z y3, fun _ => ⟨fun z => absurd z y4, fun _ => ⟨fun z => absurd z y5, fun _ => ⟨fun _ => ⟨rfl, rfl⟩, fun z => absurd rfl z⟩⟩⟩⟩⟩⟩⟩)), Sm.rf⟩
  by_cases y7 : x = 7
  · subst y7
    exact ⟨I, I, I 169 71, e_X8_count (rW_pure (w_X8_count_0 hA ⟨p, hR, hA3, p, hR, hA3, fun z => absurd z y0, fun _ => ⟨fun z => absurd z y1, fun _ => ⟨fun z => absurd z y2, fun _ => ⟨fun z => absurd z y3, fun _ => ⟨fun z => absurd z y4, fun _ => ⟨fun z => absurd z y5, fun _ => ⟨fun z => absurd z y6, fun _ => ⟨fun _ => ⟨rfl, by rw [show I (0 + 142) 1 = I 169 71 from w1]⟩, fun z => absurd rfl z⟩⟩⟩⟩⟩⟩⟩⟩)), e_X9_count (rW_pure (w_X9_count_0 hB ⟨fun z => absurd z y0, fun _ => ⟨fun z => absurd z y1, fun _ => ⟨fun z => absurd z y2, fun _ => ⟨fun z => absurd z y3, fun _ => ⟨fun z => absurd z y4, fun _ => ⟨fun z => absurd z y5, fun _ => ⟨fun z => absurd z y6, fun _ => ⟨fun _ => ⟨rfl, rfl⟩, fun z => absurd rfl z⟩⟩⟩⟩⟩⟩⟩⟩)), Sm.rf⟩
  by_cases y8 : x = 8
  · subst y8
    exact ⟨I, I, I 169 73, e_X8_count (rW_pure (w_X8_count_0 hA ⟨p, hR, hA3, p, hR, hA3, fun z => absurd z y0, fun _ => ⟨fun z => absurd z y1, fun _ => ⟨fun z => absurd z y2, fun _ => ⟨fun z => absurd z y3, fun _ => ⟨fun z => absurd z y4, fun _ => ⟨fun z => absurd z y5, fun _ => ⟨fun z => absurd z y6, fun _ => ⟨fun z => absurd z y7, fun _ => ⟨fun _ => ⟨rfl, by rw [show I (0 + 142) 2 = I 169 73 from w2]⟩, fun z => absurd rfl z⟩⟩⟩⟩⟩⟩⟩⟩⟩)), e_X9_count (rW_pure (w_X9_count_0 hB ⟨fun z => absurd z y0, fun _ => ⟨fun z => absurd z y1, fun _ => ⟨fun z => absurd z y2, fun _ => ⟨fun z => absurd z y3, fun _ => ⟨fun z => absurd z y4, fun _ => ⟨fun z => absurd z y5, fun _ => ⟨fun z => absurd z y6, fun _ => ⟨fun z => absurd z y7, fun _ => ⟨fun _ => ⟨rfl, rfl⟩, fun z => absurd rfl z⟩⟩⟩⟩⟩⟩⟩⟩⟩)), Sm.rf⟩
  · exact ⟨I, I, -1, e_X8_count (rW_pure (w_X8_count_0 hA ⟨p, hR, hA3, p, hR, hA3, fun z => absurd z y0, fun _ => ⟨fun z => absurd z y1, fun _ => ⟨fun z => absurd z y2, fun _ => ⟨fun z => absurd z y3, fun _ => ⟨fun z => absurd z y4, fun _ => ⟨fun z => absurd z y5, fun _ => ⟨fun z => absurd z y6, fun _ => ⟨fun z => absurd z y7, fun _ => ⟨fun z => absurd z y8, fun _ => ⟨rfl, rfl⟩⟩⟩⟩⟩⟩⟩⟩⟩⟩)), e_X9_count (rW_pure (w_X9_count_0 hB ⟨fun z => absurd z y0, fun _ => ⟨fun z => absurd z y1, fun _ => ⟨fun z => absurd z y2, fun _ => ⟨fun z => absurd z y3, fun _ => ⟨fun z => absurd z y4, fun _ => ⟨fun z => absurd z y5, fun _ => ⟨fun z => absurd z y6, fun _ => ⟨fun z => absurd z y7, fun _ => ⟨fun z => absurd z y8, fun _ => ⟨rfl, rfl⟩⟩⟩⟩⟩⟩⟩⟩⟩⟩)), Sm.rf⟩
end PR2
