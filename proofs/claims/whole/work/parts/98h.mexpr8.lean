/-! ===== the model's expression: a unit, a parenthesis that opens; the loop; the contract ===== -/
section MEX8
variable {γ : rG} {l : Launch} {sh : Nat × (Nat → Nat) × (Nat → Nat)} {I : Nat → Nat → Int32} {J : Nat → Nat → Int64} {R : Nat → Nat → Option Nat} {m n k base lim : Nat} {f : Nat → Int32} {q0 : Ps}
theorem go_u {q : Ps} {s : Nat} (hw : qw q = 1) (h : s = 2 ∨ s = 3 ∨ s = 8) : goB q s = true := by
  unfold goB
  rw [if_neg (by omega), if_pos hw]
  exact decide_eq_true h
theorem go_un {q : Ps} {s : Nat} (hw : qw q = 1) (h : ¬ (s = 2 ∨ s = 3 ∨ s = 8)) : goB q s = false := by
  unfold goB
  rw [if_neg (by omega), if_pos hw]
  exact decide_eq_false h
/-- a number or a name -/
theorem ex_unit {I1 : Nat → Nat → Int32} {t : Itm} (hA : At9 sh R m) (hT : TkT I m f n) (hk : k ≤ stopK f n) (hb : base + 401 ≤ lim + (preC (qs q0) q0.2.2).length ∧ lim ≤ 1000) (H200 : ∀ I2, k + 1 ≤ stopK f n → ExI I I2 m f n base lim q0 2 (k + 1) → s_X9_expression_200 γ l m 0 (sh, I2, J, R) (ExQ sh I J R m f n base lim q0)) (h : ExI I I1 m f n base lim q0 1 k) (hs : ((tokA f n k).1 = 2 ∧ t = (0, (tokA f n k).2.1)) ∨ ((tokA f n k).1 = 3 ∧ t = (1, (tokA f n k).2.1))) : ∃ I2, rMet γ l m_X9_emit [.ref m, .int (nI t.1), .int (nI t.2)] (sh, I1, J, R) (sh, I2, J, R) none ∧ ∃ I3, rMet γ l m_X9_next [.ref m] (sh, I2, J, R) (sh, I3, J, R) none ∧ s_X9_expression_200 γ l m 0 (sh, I3, J, R) (ExQ sh I J R m f n base lim q0) := by
  obtain ⟨hw, ⟨e1, e2⟩, hM, ⟨h12, h13, h11⟩, hS⟩ := id h
  have hT1 := h.t hT
  have hbb := h.b hk hb
  have hV := qA_V k hk
  have hln := hV.ln
  have hcs := okO_cases hV.2.1.1
  obtain ⟨I2, g1, g2, g3⟩ := ct_emitM (γ := γ) (l := l) (J := J) (t := t) hA hM (by omega)
  have hS2 : Sm (Fex m base lim) I I2 := hS.tr (g3.mono (fun b j z => by unfold Fex; omega))
  obtain ⟨I4, n1, n2, n3⟩ := ct_nextK (γ := γ) (l := l) (J := J) (k := k) hA (hT1.fr (fun b j z => g3 _ _ (by omega))) ((g3 _ _ (by omega)).trans h13) ((g3 _ _ (by omega)).trans h11) hk (by omega) (go_u hw (by omega)) (fun z => by omega) (fun z => by omega)
  have hS4 : Sm (Fex m base lim) I I4 := hS2.tr (n2.mono (fun b j z => by unfold Fex; omega))
  have hp4 := g2.fr (I2 := I4) (fun b j z => n2 _ _ (by omega))
  refine ⟨I2, g1, I4, n1, ?_⟩
  rcases n3 with ⟨n3, _⟩ | ⟨n3, n4, n5, n6⟩
  · exact ex_flt2 hA n3 hcs hp4 (by omega) (by simp only [List.length_append, List.length_singleton]; omega) hS4 _
  · refine H200 I4 n5 ?_
    have eq1 : qA f n (k + 1) = ((2, qs (qA f n k), qd (qA f n k)), (qo (qA f n k), qx (qA f n k) ++ [t]), (qA f n k).2.2) := by
      show stpP (qA f n k) (tokA f n k).1 (tokA f n k).2.1 = _
      rcases hs with ⟨z1, z2⟩ | ⟨z1, z2⟩
      · rw [z1, z2]; rfl
      · rw [z1, z2]; rfl
    unfold ExI
    rw [eq1]
    exact ⟨rfl, ⟨e1, e2⟩, hp4, ⟨(n2 _ _ (by omega)).trans ((g3 _ _ (by omega)).trans h12), n3, n4⟩, hS4⟩
theorem ex_12 {I1 : Nat → Nat → Int32} (hA : At9 sh R m) (hT : TkT I m f n) (hk : k ≤ stopK f n) (hb : base + 401 ≤ lim + (preC (qs q0) q0.2.2).length ∧ lim ≤ 1000) (H12 : ∀ I2, k + 1 ≤ stopK f n → ExI I I2 m f n base lim q0 1 (k + 1) → s_X9_expression_12 γ l m 0 1 (sh, I2, J, R) (ExQ sh I J R m f n base lim q0)) (H200 : ∀ I2, k + 1 ≤ stopK f n → ExI I I2 m f n base lim q0 2 (k + 1) → s_X9_expression_200 γ l m 0 (sh, I2, J, R) (ExQ sh I J R m f n base lim q0)) (h : ExI I I1 m f n base lim q0 1 k) : s_X9_expression_12 γ l m 0 1 (sh, I1, J, R) (ExQ sh I J R m f n base lim q0) := by
  obtain ⟨hw, ⟨e1, e2⟩, hM, ⟨h12, h13, h11⟩, hS⟩ := id h
  have hT1 := h.t hT
  have hK := (stop_at (f := f) (n := n)).1
  have hbb := h.b hk hb
  have hV := qA_V k hk
  have hln := hV.ln
  have hd6 := hV.2.1.2.1
  obtain ⟨kd, t1, t2, t3, t4⟩ := hT1 k hk
  have hok : TkOk (tokA f n k).1 (tokA f n k).2.1 := tkA_ok
  obtain ⟨k40, k6, k2, k3, k3v, _⟩ := KR_f t2 hok
  have j6 := ct_is0 (γ := γ) (l := l) (J := J) (c := 6) hA h13 h11 (by omega) t1 (by omega) (by decide)
  have j2 := ct_is0 (γ := γ) (l := l) (J := J) (c := 2) hA h13 h11 (by omega) t1 (by omega) (by decide)
  have le0 : I1 m 13 ≤ 0 := by rw [h13]; decide
  -- no name
  have at131 : kd ≠ 6 → (tokA f n k).1 ≠ 3 → s_X9_expression_131 γ l m 0 (sh, I1, J, R) (ExQ sh I J R m f n base lim q0) := by
    intro y6 y3
    refine w_X9_expression_131 hA (w_X9_expression_132 hA ⟨_, j2, fun z2 => ⟨fun _ => ?_, fun z => absurd rfl z⟩, fun z2 => ?_⟩)
    · rw [nzd0] at z2
      obtain ⟨g1, g2⟩ := stop_no hk (by omega) (Or.inr (go_un (s := (tokA f n k).1) hw (by omega)))
      obtain ⟨I3, f1, f2, f3⟩ := ct_failK (γ := γ) (l := l) (J := J) hA hT1 h13 h11 g1 g2 (by decide)
      exact ⟨I3, f1, w_X9_expression_150 hA ⟨fun z => absurd z f2.ne.2, fun _ => ⟨I3, rfl, rfl, Or.inl f2, hS.tr (f3.mono (fun b j z => by unfold Fex; omega))⟩⟩⟩
    · rw [nzd0, Classical.not_not] at z2
      refine w_X9_expression_150 hA ⟨fun _ => ⟨fun _ => ?_, fun z => absurd rfl z⟩, fun z => absurd le0 z⟩
      rw [h11, nI_clamp (by omega), t4 (k2.mp z2)]
      exact ⟨vp_in_nI (by omega) (by decide), ex_unit (t := (0, (tokA f n k).2.1)) hA hT hk hb H200 h (Or.inl ⟨k2.mp z2, rfl⟩)⟩
  refine w_X9_expression_12 hA ⟨fun z => absurd z (by decide), fun _ => ⟨fun _ => ⟨_, j6, fun z6 => ⟨fun _ => ?_, fun z => absurd h13 z⟩, fun z6 => ?_⟩, fun z => absurd h13 z⟩⟩
  · rw [nzd0] at z6
    rw [h11, nI_clamp (by omega), t1]
    refine ⟨vp_in_nI (by omega) (by decide), fun z => at131 z6 ?_, fun z => ⟨vp_in_nI (by omega) (by decide), fun y => at131 z6 ?_, fun y => ?_⟩⟩
    · rw [show (29 : Int32) = nI 29 from rfl, nI_ltI (by omega) (by decide)] at z
      omega
    · rw [show (33 : Int32) = nI 33 from rfl, nI_ltI (by decide) (by omega)] at y
      omega
    · rw [show (29 : Int32) = nI 29 from rfl, nI_ltI (by omega) (by decide)] at z
      rw [show (33 : Int32) = nI 33 from rfl, nI_ltI (by decide) (by omega)] at y
      have hs3 : (tokA f n k).1 = 3 := k3.mp (by omega)
      have at150 : s_X9_expression_150 γ l m 0 1 (sh, I1, J, R) (ExQ sh I J R m f n base lim q0) := by
        refine w_X9_expression_150 hA ⟨fun _ => ⟨fun z => absurd z (by decide), fun _ => ?_⟩, fun z => absurd le0 z⟩
        rw [h11, nI_clamp (by omega), t1, k3v hs3, show nI (29 + (tokA f n k).2.1) - 29 = nI (tokA f n k).2.1 from nI_sub' 29 _]
        exact ⟨vp_in_nI (by omega) (by decide), ex_unit (t := (1, (tokA f n k).2.1)) hA hT hk hb H200 h (Or.inr ⟨hs3, rfl⟩)⟩
      exact w_X9_expression_132 hA ⟨_, j2, fun _ => ⟨fun z => absurd z (by decide), fun _ => at150⟩, fun _ => at150⟩
  · rw [nzd0, Classical.not_not] at z6
    have hs8 := k6.mp z6
    have hgo : goB (qA f n k) (tokA f n k).1 = true := go_u hw (by omega)
    refine ⟨fun z => ?_, fun z => ?_⟩
    · rw [h12, show (6 : Int32) = nI 6 from rfl, nI_eq (by omega) (by decide)] at z
      obtain ⟨g1, g2⟩ := stop_fau (c := 2) hk (by omega) (by
        unfold fauA
        rw [if_neg (by rw [hgo]; decide), if_pos (by omega)]) (by decide)
      obtain ⟨I3, f1, f2, f3⟩ := ct_failK (γ := γ) (l := l) (J := J) hA hT1 h13 h11 g1 g2 (by decide)
      exact ⟨I3, f1, w_X9_expression_46 hA ⟨fun z => absurd z f2.ne.2, fun _ => ⟨I3, rfl, rfl, Or.inl f2, hS.tr (f3.mono (fun b j z => by unfold Fex; omega))⟩⟩⟩
    · rw [h12, show (6 : Int32) = nI 6 from rfl, nI_eq (by omega) (by decide)] at z
      refine w_X9_expression_46 hA ⟨fun _ => ?_, fun z => absurd le0 z⟩
      rw [h12, nI_1]
      generalize hI2 : up I1 m 12 (nI (qd (qA f n k) + 1)) = I2
      have fr2 : ∀ b j, ¬ (b = m ∧ j = 12) → I2 b j = I1 b j := by
        intro b j y
        rw [← hI2, up_at, if_neg (by omega)]
      have e12 : I2 m 12 = nI (qd (qA f n k) + 1) := by rw [← hI2, up_at, if_pos ⟨rfl, rfl⟩]
      have hS2 : Sm (Fex m base lim) I I2 := hS.tr (fun b j y => fr2 b j (fun z => y (by unfold Fex; omega)))
      obtain ⟨I4, n1, n2, n3⟩ := ct_nextK (γ := γ) (l := l) (J := J) (k := k) hA (hT1.fr (fun b j z => fr2 _ _ (by omega))) ((fr2 _ _ (by omega)).trans h13) ((fr2 _ _ (by omega)).trans h11) hk (by omega) hgo (fun z => by omega) (fun z => by omega)
      have hS4 : Sm (Fex m base lim) I I4 := hS2.tr (n2.mono (fun b j z => by unfold Fex; omega))
      have hp4 : MxS I4 m base (qo (qA f n k)) (qx (qA f n k)) := hM.fr (fun b j z => (n2 _ _ (by omega)).trans (fr2 _ _ (by omega)))
      have hp := hp4.push (s := 8) (by omega)
      have e36 : I4 m 36 = nI (qo (qA f n k)).length := hp4.1
      have ev : up I4 (m + 22) (qo (qA f n k)).length 6 m 36 = nI (qo (qA f n k)).length := by rw [up_at, if_neg (by omega)]; exact e36
      refine ⟨I4, n1, ?_⟩
      rw [e36, nI_clamp (by omega), ev, nI_1]
      refine ⟨vp_in_nI (by omega) (by decide), ?_⟩
      have hp' : MxS (up (up I4 (m + 22) (qo (qA f n k)).length 6) m 36 (nI ((qo (qA f n k)).length + 1))) m base (8 :: qo (qA f n k)) (qx (qA f n k)) := hp
      generalize hI5 : up (up I4 (m + 22) (qo (qA f n k)).length 6) m 36 (nI ((qo (qA f n k)).length + 1)) = I5 at hp'
      have fr5 : ∀ b j, ¬ (b = m + 22 ∨ (b = m ∧ j = 36)) → I5 b j = I4 b j := by
        intro b j y
        rw [← hI5, up_at, if_neg (by omega), up_at, if_neg (by omega)]
      have hS5 : Sm (Fex m base lim) I I5 := hS4.tr (fun b j y => fr5 b j (fun z => y (by unfold Fex; omega)))
      rcases n3 with ⟨n3, _⟩ | ⟨n3, n4, n5, n6⟩
      · exact ex_flt12 hA (n3.fr (fun j z => fr5 _ _ (by omega))) hS5 _ _
      · refine H12 I5 n5 ?_
        have eq1 : qA f n (k + 1) = ((1, qs (qA f n k), qd (qA f n k) + 1), (8 :: qo (qA f n k), qx (qA f n k)), (qA f n k).2.2) := by
          show stpP (qA f n k) (tokA f n k).1 (tokA f n k).2.1 = _
          rw [hs8]
          rfl
        unfold ExI
        rw [eq1]
        exact ⟨rfl, ⟨e1, e2⟩, hp', ⟨(fr5 _ _ (by omega)).trans ((n2 _ _ (by omega)).trans e12), (fr5 _ _ (by omega)).trans n3, (fr5 _ _ (by omega)).trans n4⟩, hS5⟩
theorem ex_loop (hA : At9 sh R m) (hT : TkT I m f n) (hb : base + 401 ≤ lim + (preC (qs q0) q0.2.2).length ∧ lim ≤ 1000) : ∀ d k, k + d = stopK f n → (∀ I1, ExI I I1 m f n base lim q0 1 k → s_X9_expression_12 γ l m 0 1 (sh, I1, J, R) (ExQ sh I J R m f n base lim q0)) ∧ (∀ I1, ExI I I1 m f n base lim q0 2 k → s_X9_expression_200 γ l m 0 (sh, I1, J, R) (ExQ sh I J R m f n base lim q0)) := by
  intro d
  induction d with
  | zero =>
    intro k hk
    exact ⟨fun I1 h => ex_12 hA hT (by omega) hb (fun _ z => by omega) (fun _ z => by omega) h, fun I1 h => ex_200 hA hT (by omega) hb (fun _ z => by omega) (fun _ z => by omega) h⟩
  | succ d ih =>
    intro k hk
    obtain ⟨i1, i2⟩ := ih (k + 1) (by omega)
    exact ⟨fun I1 h => ex_12 hA hT (by omega) hb (fun I2 _ => i1 I2) (fun I2 _ => i2 I2) h, fun I1 h => ex_200 hA hT (by omega) hb (fun I2 _ => i1 I2) (fun I2 _ => i2 I2) h⟩
/-- the model's expression -/
theorem ct_expression (hA : At9 sh R m) (hT : TkT I m f n) (hk : k ≤ stopK f n) (hq : qw (qA f n k) = 1 ∧ qo (qA f n k) = [] ∧ qx (qA f n k) = [] ∧ qd (qA f n k) = 0) (h12 : I m 12 = 0) (h13 : I m 13 = 0) (h11 : I m 11 = nI k) (h32 : I m 32 = nI base) (hb : base + 401 ≤ lim + (preC (qs (qA f n k)) (qA f n k).2.2).length ∧ lim ≤ 1000) : ∃ I', rMet γ l m_X9_expression [.ref m] (sh, I, J, R) (sh, I', J, R) none ∧ (ExP I' m f n base (qA f n k) ∧ Sm (Fex m base lim) I I') := by
  obtain ⟨hw, ho, hx, hd⟩ := hq
  have hv : up I m 36 0 m 12 = 0 := by rw [up_at, if_neg (by omega)]; exact h12
  have t := (ex_loop (γ := γ) (l := l) (J := J) (base := base) (lim := lim) (q0 := qA f n k) hA hT hb (stopK f n - k) k (by omega)).1 (up I m 36 0) (by
    refine ⟨hw, ⟨rfl, rfl⟩, ?_, ⟨?_, ?_, ?_⟩, Sm.rf.up (Or.inl ⟨rfl, by omega⟩)⟩
    · rw [ho, hx]
      refine ⟨by rw [up_at, if_pos ⟨rfl, rfl⟩]; rfl, trivial, ?_, trivial⟩
      rw [up_at, if_neg (by omega), h32]; rfl
    · rw [hv, hd]; rfl
    · rw [up_at, if_neg (by omega)]; exact h13
    · rw [up_at, if_neg (by omega)]; exact h11)
  obtain ⟨I', q1, q2⟩ := rW_ex (γ := γ) (l := l) (sh := sh) (J := J) (R := R) (r := none) (F := fun I' => ExP I' m f n base (qA f n k) ∧ Sm (Fex m base lim) I I') (w_X9_expression_0 (I := I) (J := J) hA (by rw [hv]; exact t))
  exact ⟨I', e_X9_expression q1, q2⟩
/-- with a fault on record nothing is read -/
theorem ct_expressionF (hA : At9 sh R m) (h13 : I m 13 ≠ 0) : rMet γ l m_X9_expression [.ref m] (sh, I, J, R) (sh, up I m 36 0, J, R) none := by
  refine e_X9_expression (rW_pure (w_X9_expression_0 hA (w_X9_expression_12 hA ⟨fun _ => ⟨rfl, rfl⟩, fun _ => ⟨fun z => absurd ?_ h13, fun _ => ⟨rfl, rfl⟩⟩⟩)))
  rw [up_at, if_neg (by omega)] at z
  exact z
end MEX8
