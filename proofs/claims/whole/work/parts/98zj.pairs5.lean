/-! ===== rows, row, shut: the pairs ===== -/
def CsF (I : Nat → Nat → Int32) (J : Nat → Nat → Int64) (N : Nat) (F : Fnd) : Prop := I 116 7 = 1 ∧ OuR I J 117 N ∧ SrS I 116 N F (PLb N 4) (PLb N 4).length
def MsF (I : Nat → Nat → Int32) (N : Nat) (F : Fnd) : Prop := I 169 59 = 1 ∧ ReM I 169 N F (SqB N 4) ∧ I 169 64 = nI (ckN N F) ∧ I 169 65 = nI (crF N F)
def S_srch (I : Nat → Nat → Int32) (J : Nat → Nat → Int64) (N : Nat) (F : Fnd) : Prop := (I 116 7 = 0 ∧ I 169 59 = 0) ∨ (CsF I J N F ∧ MsF I N F)
def S_fnd (I : Nat → Nat → Int32) (J : Nat → Nat → Int64) (N : Nat) (F : Fnd) : Prop := V_fnd F ∧ FdC I 116 N F ∧ FdM I 169 N F ∧ OuK I J 117 ∧ S_srch I J N F
def Psr (b j : Nat) : Prop := (b = 116 ∧ 7 ≤ j ∧ j ≤ 12) ∨ (b = 117 ∧ j < 2) ∨ (119 ≤ b ∧ b ≤ 141) ∨ (b = 169 ∧ (j = 59 ∨ j = 60 ∨ j = 61 ∨ j = 64 ∨ j = 65 ∨ j = 68)) ∨ (b = 194 ∧ 17 ≤ j) ∨ ((b = 195 ∨ b = 196 ∨ b = 197) ∧ 136 ≤ j) ∨ (210 ≤ b ∧ b ≤ 213)
theorem OuR.fr {I I' : Nat → Nat → Int32} {J J' : Nat → Nat → Int64} {a N : Nat} (h : OuR I J a N) (hq : ∀ b j, (b = a ∧ j < 2) ∨ b = a + 2 ∨ b = a + 3 ∨ b = a + 4 → I' b j = I b j) (hJ : ∀ j, J' (a + 1) j = J (a + 1) j) : OuR I' J' a N :=
  ⟨(hq _ _ (by omega)).trans h.1, h.2.1.loc (fun b j z _ _ => hq _ _ (by omega)) (fun j _ _ => hJ j), (hq _ _ (by omega)).trans h.2.2.1, fun d hd => (hq _ _ (by omega)).trans (h.2.2.2 d hd)⟩
theorem OuK.fr {I I' : Nat → Nat → Int32} {J J' : Nat → Nat → Int64} {a : Nat} (h : OuK I J a) (hq : ∀ b j, (b = a ∧ j < 2) ∨ b = a + 2 ∨ b = a + 3 ∨ b = a + 4 → I' b j = I b j) (hJ : ∀ j, J' (a + 1) j = J (a + 1) j) : OuK I' J' a :=
  fun N n1 n2 hz => (h N n1 n2 ((hq _ _ (by omega)).symm.trans hz)).fr hq hJ
theorem OuR.K {I : Nat → Nat → Int32} {J : Nat → Nat → Int64} {a N : Nat} (h : OuR I J a N) (hN : N ≤ 8) : OuK I J a := by
  intro N' n1 n2 hz
  have : N' = N := (nI_eq (by omega) (by omega)).mp (hz.symm.trans h.1)
  rw [this]
  exact h
section PR5
variable {γ : rG} {l : Launch} {sh : Nat × (Nat → Nat) × (Nat → Nat)} {I : Nat → Nat → Int32} {J : Nat → Nat → Int64} {R : Nat → Nat → Option Nat} {N : Nat} {F : Fnd}
theorem SqB_14 (h : 2 ≤ N ∧ N ≤ 8) : ∀ d, d ≤ 4 → ∀ x, x ∈ SqB N d → x.1.1 < 2 ^ 14 := by
  obtain ⟨B, hT⟩ := told_all h.1 h.2
  have hSq : ∀ d, d ≤ 3 → ∀ x, x ∈ Sq N d → EnV N B d x := by
    intro d
    induction d with
    | zero => intro _ x hx; rw [List.mem_singleton.mp hx]; exact root_V h hT
    | succ d ih => intro hd x hx; exact flat_EnV (ih (by omega)) hT (by omega) x hx
  intro d
  induction d with
  | zero => intro _ x hx; exact absurd hx (by simp [SqB])
  | succ d ih =>
    intro hd x hx
    simp only [SqB] at hx
    rcases List.mem_append.mp hx with z | z
    · exact ih (by omega) x z
    · exact (hSq d (by omega) x z).1.b.1
def PsC (b j : Nat) : Prop := (b = 116 ∧ 7 ≤ j ∧ j ≤ 12) ∨ (b = 117 ∧ j < 2) ∨ (119 ≤ b ∧ b ≤ 141)
theorem CsF.fr {I' : Nat → Nat → Int32} (h : CsF I J N F) (hq : ∀ b j, 116 ≤ b → b ≤ 140 → I' b j = I b j) : CsF I' J N F :=
  ⟨(hq _ _ (by omega) (by omega)).trans h.1, h.2.1.fr (fun b j z => hq _ _ (by omega) (by omega)) (fun _ => rfl), h.2.2.loc (fun j z1 z2 => hq _ _ (by omega) (by omega))⟩
theorem MsF.fr {I' : Nat → Nat → Int32} (h : MsF I N F) (hq : ∀ b j, 169 ≤ b → I' b j = I b j) : MsF I' N F :=
  ⟨(hq _ _ (by omega)).trans h.1, h.2.1.fr (fun b j z => hq _ _ (by unfold Frw Fft at z; omega)), (hq _ _ (by omega)).trans h.2.2.1, (hq _ _ (by omega)).trans h.2.2.2⟩
/-- the class has searched -/
theorem srchC (hA : At8 sh R 0) (h : 2 ≤ N ∧ N ≤ 8) (hS : S_fnd I J N F) : ∃ I1 J1, rMet γ l m_X0_search [.ref 116] (sh, I, J, R) (sh, I1, J1, R) none ∧ CsF I1 J1 N F ∧ FdC I1 116 N F ∧ Sm PsC I I1 ∧ SmJ 118 J J1 := by
  obtain ⟨hV, hC, hM, hK, hs⟩ := hS
  have hA0 : At0 sh R 116 := (At8_3 hA).2
  rcases hs with ⟨s1, s2⟩ | ⟨s1, s2⟩
  · obtain ⟨I1, J1, m1, m2, m3, m4, m5, m6⟩ := ct_search0 (γ := γ) (l := l) hA0 h hC hK s1
    exact ⟨I1, J1, m1, ⟨m4, m2, m3⟩, hC.loc (fun j hj => m5 _ _ (by unfold Fsr Fpr; omega)), m5.mono (fun b j z => by unfold Fsr Fpr at z; unfold PsC; omega), m6⟩
  · exact ⟨I, J, ct_search1 hA0 s1.1, s1, hC, Sm.rf, SmJ.rf⟩
/-- the model has tried -/
theorem srchM (hB : At9 sh R 169) (h : 2 ≤ N ∧ N ≤ 8) (h39 : I 169 39 = nI N) (hV : V_fnd F) (hM : FdM I 169 N F) (hs : I 169 59 = 0 ∨ MsF I N F) : ∃ I2, rMet γ l m_X9_tries [.ref 169] (sh, I, J, R) (sh, I2, J, R) none ∧ MsF I2 N F ∧ Sm (Ftri 169) I I2 := by
  rcases hs with s1 | s1
  · obtain ⟨I2, m1, m2, m3, m4⟩ := ct_tries0 (γ := γ) (l := l) (J := J) hB h hV hM h39 s1
    exact ⟨I2, m1, ⟨m3.1, m2, m3.2.1, m3.2.2⟩, m4⟩
  · exact ⟨I, ct_tries1 hB s1.1, s1, Sm.rf⟩
/-- both parts together again -/
theorem srch_end {I1 I2 : Nat → Nat → Int32} {J1 : Nat → Nat → Int64} (h : 2 ≤ N ∧ N ≤ 8) (hS : S_fnd I J N F) (c1 : CsF I1 J1 N F) (c2 : Sm PsC I I1) (m1 : MsF I2 N F) (m2 : Sm (Ftri 169) I1 I2) : S_fnd I2 J1 N F ∧ Sm Psr I I2 := by
  obtain ⟨hV, hC, hM, hK, hs⟩ := hS
  have o : ∀ b j, ¬ PsC b j → ¬ Ftri 169 b j → I2 b j = I b j := fun b j z1 z2 => (m2 b j z2).trans (c2 b j z1)
  have c3 : CsF I2 J1 N F := c1.fr (fun b j z1 z2 => m2 _ _ (by unfold Ftri Fgo Frw Fft; omega))
  refine ⟨⟨hV, hC.loc (fun j hj => o _ _ (by unfold PsC; omega) (by unfold Ftri Fgo Frw Fft; omega)), hM.loc (fun b j z => o _ _ (by unfold PsC; omega) (by unfold Ftri Fgo Frw Fft; omega)), c3.2.1.K h.2, Or.inr ⟨c3, m1⟩⟩, fun b j z => o b j (fun y => z (by unfold PsC at y; unfold Psr; omega)) (fun y => z (by unfold Ftri Fgo Frw Fft at y; unfold Psr; omega))⟩
/-- what the model finds of its own behind the class's call -/
theorem srch_mid {I1 : Nat → Nat → Int32} (h39 : I 169 39 = nI N) (hS : S_fnd I J N F) (c2 : Sm PsC I I1) : I1 169 39 = nI N ∧ FdM I1 169 N F ∧ (I1 169 59 = 0 ∨ MsF I1 N F) := by
  obtain ⟨hV, hC, hM, hK, hs⟩ := hS
  have o : ∀ b j, 169 ≤ b → I1 b j = I b j := fun b j z => c2 b j (by unfold PsC; omega)
  refine ⟨(o _ _ (by omega)).trans h39, hM.loc (fun b j z => o _ _ (by omega)), ?_⟩
  rcases hs with ⟨s1, s2⟩ | ⟨s1, s2⟩
  · exact Or.inl ((o _ _ (by omega)).trans s2)
  · exact Or.inr (s2.fr o)
theorem pc_rows (hA : At8 sh R 0) (hB : At9 sh R 169) (h : 2 ≤ N ∧ N ≤ 8) (h39 : I 169 39 = nI N) (hS : S_fnd I J N F) : ∃ (I1 : Nat → Nat → Int32) (J1 : Nat → Nat → Int64) (I2 : Nat → Nat → Int32) (v : Int32), rMet γ l m_X8_rows [.ref 0] (sh, I, J, R) (sh, I1, J1, R) (some (.int v)) ∧ rMet γ l m_X9_rows [.ref 169] (sh, I1, J1, R) (sh, I2, J1, R) (some (.int v)) ∧ S_fnd I2 J1 N F ∧ Sm Psr I I2 ∧ SmJ 118 J J1 := by
  obtain ⟨I1, J1, m1, m2, m3, m4, m5⟩ := srchC (γ := γ) (l := l) hA h hS
  obtain ⟨x1, x2, x3⟩ := srch_mid h39 hS m4
  obtain ⟨I2, t1, t2, t3⟩ := srchM (γ := γ) (l := l) (J := J1) hB h x1 hS.1 x2 x3
  obtain ⟨e1, e2⟩ := srch_end h hS m2 m4 t2 t3
  have v1 : I1 116 8 = nI (wsum (EkK N F) (SqB N 4)) := by
    rw [m2.2.2.1, List.take_length, (PLb_SqB N 4).1]
  refine ⟨I1, J1, I2, nI (wsum (EkK N F) (SqB N 4)), ?_, ?_, e1, e2, m5⟩
  · exact e_X8_rows (rW_pure (w_X8_rows_0 hA ⟨I1, J1, m1, rfl, by rw [v1]⟩))
  · exact e_X9_rows (rW_pure (w_X9_rows_0 hB ⟨I2, t1, rfl, by rw [t2.2.1.1.1]⟩))
theorem pc_row (hA : At8 sh R 0) (hB : At9 sh R 169) (h : 2 ≤ N ∧ N ≤ 8) (h39 : I 169 39 = nI N) (hS : S_fnd I J N F) (x : Int32) : ∃ (I1 : Nat → Nat → Int32) (J1 : Nat → Nat → Int64) (I2 : Nat → Nat → Int32) (v : Int32), rMet γ l m_X8_row [.ref 0, .int x] (sh, I, J, R) (sh, I1, J1, R) (some (.int v)) ∧ rMet γ l m_X9_row [.ref 169, .int x] (sh, I1, J1, R) (sh, I2, J1, R) (some (.int v)) ∧ S_fnd I2 J1 N F ∧ Sm Psr I I2 ∧ SmJ 118 J J1 := by
  obtain ⟨I1, J1, m1, m2, m3, m4, m5⟩ := srchC (γ := γ) (l := l) hA h hS
  obtain ⟨x1, x2, x3⟩ := srch_mid h39 hS m4
  obtain ⟨I2, t1, t2, t3⟩ := srchM (γ := γ) (l := l) (J := J1) hB h x1 hS.1 x2 x3
  obtain ⟨e1, e2⟩ := srch_end h hS m2 m4 t2 t3
  have fa := ct_firstAct (γ := γ) (l := l) (At8_3 hA).2 h m2.2.1 m2.2.2 x
  refine ⟨I1, J1, I2, rowA N F (fst1 (pE N F) (PLb N 4)) x, ?_, ?_, e1, e2, m5⟩
  · exact e_X8_row (rW_pure (w_X8_row_0 hA ⟨I1, J1, m1, _, fa, rfl, rfl⟩))
  · rw [(PLb_SqB N 4).2]
    have ft := t2.2.1.1
    refine e_X9_row (rW_pure (w_X9_row_0 hB ⟨I2, t1, ?_⟩))
    cases ho : fst1 (pE N F) (SqB N 4) with
    | none =>
      rw [ho] at ft
      have f61 : I2 169 61 = -1 := ft.2
      rw [f61]
      refine ⟨fun _ => ⟨rfl, rfl⟩, fun z => ⟨fun _ => ⟨rfl, rfl⟩, fun y => absurd ?_ y⟩⟩
      obtain ⟨k, hk, rfl⟩ := nI_of z
      exact Int32.le_trans (by decide) (nI_pos' hk)
    | some r =>
      rw [ho] at ft
      obtain ⟨f1, f2, f3, f4⟩ : I2 169 60 = nI (wsum (EkK N F) (SqB N 4)) ∧ I2 169 61 = nI (rowL N F r).length ∧ (rowL N F r).length ≤ 5 ∧ LsA I2 (169 + 41) (rowL N F r) := ft
      rw [f2]
      refine ⟨fun z => ⟨rfl, ?_⟩, fun z => ⟨fun y => ⟨rfl, ?_⟩, fun y => ?_⟩⟩
      · show some (Value.int (-1)) = some (Value.int (if ¬ x < 0 ∧ _ then _ else -1))
        rw [if_neg (fun w => w.1 z)]
      · show some (Value.int (-1)) = some (Value.int (if ¬ x < 0 ∧ _ then _ else -1))
        rw [if_neg (fun w => Int32.not_lt.mpr y w.2)]
      · obtain ⟨k, hk, rfl⟩ := nI_of z
        rw [nI_leI (by omega) hk] at y
        rw [nI_clamp hk, f4 k (by omega)]
        refine ⟨vp_in_nI (by omega) (by decide), rfl, ?_⟩
        show some (Value.int (nI ((rowL N F r).getD k 0))) = some (Value.int (if ¬ nI k < 0 ∧ nI k < nI (rowL N F r).length then nI ((rowL N F r).getD (nI k).toNatClampNeg 0) else -1))
        rw [if_pos ⟨z, nI_lt (by omega) (by omega)⟩, nI_clamp hk]
theorem pc_shut (hA : At8 sh R 0) (hB : At9 sh R 169) (h : 2 ≤ N ∧ N ≤ 8) (h39 : I 169 39 = nI N) (hS : S_fnd I J N F) : ∃ (I1 : Nat → Nat → Int32) (J1 : Nat → Nat → Int64) (I2 : Nat → Nat → Int32) (v : Int32), rMet γ l m_X8_shut [.ref 0] (sh, I, J, R) (sh, I1, J1, R) (some (.int v)) ∧ rMet γ l m_X9_shut [.ref 169] (sh, I1, J1, R) (sh, I2, J1, R) (some (.int v)) ∧ S_fnd I2 J1 N F ∧ Sm Psr I I2 ∧ SmJ 118 J J1 := by
  obtain ⟨I1, J1, m1, m2, m3, m4, m5⟩ := srchC (γ := γ) (l := l) hA h hS
  have v1 : I1 116 8 = nI (wsum (EkK N F) (SqB N 4)) := by
    rw [m2.2.2.1, List.take_length, (PLb_SqB N 4).1]
  by_cases hz : nI (wsum (EkK N F) (SqB N 4)) ≤ 0
  · obtain ⟨I5, q1, q2⟩ := ct_isShutTwice (γ := γ) (l := l) (F := F) (At8_3 hA).2 h m3 m2.2.1
    have m4' : Sm PsC I I5 := m4.tr (q2.mono (fun b j z => by unfold PsC; omega))
    have m2' : CsF I5 J1 N F := m2.fr (fun b j z1 z2 => q2 _ _ (by omega))
    obtain ⟨x1, x2, x3⟩ := srch_mid h39 hS m4'
    obtain ⟨I2, t1, t2, t3⟩ := srchM (γ := γ) (l := l) (J := J1) hB h x1 hS.1 x2 x3
    obtain ⟨e1, e2⟩ := srch_end h hS m2' m4' t2 t3
    have sl := shut_loop (γ := γ) (l := l) (J := J1) hB t2.2.1 h.2 (SqB_14 h 4 (Nat.le_refl _)) t2.2.2.1 t2.2.2.2
    have hM : ∀ v : Int32, (Two N F (SqB N 4) → v = 2) → (¬ Two N F (SqB N 4) → v = 0) → rMet γ l m_X9_shut [.ref 169] (sh, I5, J1, R) (sh, I2, J1, R) (some (.int v)) := by
      intro v w1 w2
      refine e_X9_shut (rW_pure (w_X9_shut_0 hB ⟨I2, t1, fun _ => rW_mono sl ?_, fun z => absurd ?_ z⟩))
      · rintro hf r ⟨y1, y2⟩
        rcases y2 with ⟨y2, y3⟩ | ⟨y2, y3⟩
        · rw [w1 y2]; exact ⟨y1, y3⟩
        · rw [w2 y2]; exact ⟨y1, y3⟩
      · rw [t2.2.1.1.1]; exact hz
    by_cases ht : Two N F (SqB N 4)
    · refine ⟨I5, J1, I2, 2, ?_, hM 2 (fun _ => rfl) (fun y => absurd ht y), e1, e2, m5⟩
      refine e_X8_shut (rW_pure (w_X8_shut_0 hA ⟨I1, J1, m1, fun _ => ⟨I5, _, q1, fun y => ?_, fun _ => ⟨rfl, rfl⟩⟩, fun z => absurd (by rw [v1]; exact hz) z⟩))
      rw [bz_0] at y
      exact absurd ((two_all N F).mpr ht) y
    · refine ⟨I5, J1, I2, 0, ?_, hM 0 (fun y => absurd y ht) (fun _ => rfl), e1, e2, m5⟩
      refine e_X8_shut (rW_pure (w_X8_shut_0 hA ⟨I1, J1, m1, fun _ => ⟨I5, _, q1, fun _ => ⟨rfl, rfl⟩, fun y => ?_⟩, fun z => absurd (by rw [v1]; exact hz) z⟩))
      rw [bz_0, Classical.not_not] at y
      exact absurd ((two_all N F).mp y) ht
  · obtain ⟨x1, x2, x3⟩ := srch_mid h39 hS m4
    obtain ⟨I2, t1, t2, t3⟩ := srchM (γ := γ) (l := l) (J := J1) hB h x1 hS.1 x2 x3
    obtain ⟨e1, e2⟩ := srch_end h hS m2 m4 t2 t3
    refine ⟨I1, J1, I2, 1, ?_, ?_, e1, e2, m5⟩
    · exact e_X8_shut (rW_pure (w_X8_shut_0 hA ⟨I1, J1, m1, fun z => absurd z (by rw [v1]; exact hz), fun _ => ⟨rfl, rfl⟩⟩))
    · exact e_X9_shut (rW_pure (w_X9_shut_0 hB ⟨I2, t1, fun z => absurd z (by rw [t2.2.1.1.1]; exact hz), fun _ => ⟨rfl, rfl⟩⟩))
end PR5
