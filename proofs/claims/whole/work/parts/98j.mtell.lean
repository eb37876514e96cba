/-! ===== the model's tellRule ===== -/
def Ftr (m s : Nat) : Nat → Nat → Prop := fun b j => (b = m ∧ (j = 11 ∨ j = 12 ∨ j = 13 ∨ j = 14 ∨ j = 32 ∨ j = 36)) ∨ b = m + 22 ∨ ((b = m + 8 ∨ b = m + 14) ∧ j = s) ∨ (m + 9 ≤ b ∧ b ≤ m + 13 ∧ 16 * s ≤ j ∧ j < 16 * s + 16) ∨ (m + 15 ≤ b ∧ b ≤ m + 19 ∧ 200 * s ≤ j ∧ j < 200 * s + 200) ∨ ((b = m + 20 ∨ b = m + 21) ∧ 500 * s ≤ j ∧ j < 500 * s + 401)
/-- between rules: those done stand on side s -/
def RdI (I : Nat → Nat → Int32) (m : Nat) (f : Nat → Int32) (n s k : Nat) : Prop := k ≤ stopK f n ∧ qw (qA f n k) = 0 ∧ (I m 13 = 0 ∧ I m 12 = 0 ∧ I m 11 = nI k ∧ I m 19 = nI s) ∧ ∃ base nr, I m 32 = nI base ∧ (500 * s ≤ base ∧ base ≤ 500 * s + (codes (qn (qA f n k))).length) ∧ I (m + 14) s = nI nr ∧ 3 * nr ≤ (codes (qn (qA f n k))).length ∧ PrX I m s base nr (qn (qA f n k))
def TrP (I : Nat → Nat → Int32) (m : Nat) (f : Nat → Int32) (n s r : Nat) : Prop := FltM I m f n ∨ ∃ k, RdI I m f n s k ∧ (qn (qA f n k)).length = r + 1
abbrev TrQ (sh : Nat × (Nat → Nat) × (Nat → Nat)) (I : Nat → Nat → Int32) (J : Nat → Nat → Int64) (R : Nat → Nat → Option Nat) (m : Nat) (f : Nat → Int32) (n s r : Nat) : rHeap → Option Value → Prop := fun hf v => ∃ I', hf = (sh, I', J, R) ∧ v = none ∧ (TrP I' m f n s r ∧ Sm (Ftr m s) I I')
/-- this rule, all but its last relation's number -/
def RuY (I : Nat → Nat → Int32) (m s b nr r : Nat) (u : Rul) : Prop := ∃ e k, (500 * s ≤ e ∧ e + u.2.1.length ≤ b ∧ k + u.2.2.length = nr) ∧ I (m + 9) (16 * s + r) = nI u.1 ∧ I (m + 10) (16 * s + r) = nI e ∧ I (m + 11) (16 * s + r) = nI (e + u.2.1.length) ∧ I (m + 12) (16 * s + r) = nI k ∧ SegM I m e u.2.1 ∧ RelsX I m s b k u.2.2
theorem wfK_len {E : List Itm} (h : wfK E) : 1 ≤ E.length := by
  cases E with
  | nil => exact absurd (show (0 : Nat) = 1 from h.2) (by decide)
  | cons x t => simp
section MTR
variable {γ : rG} {l : Launch} {sh : Nat × (Nat → Nat) × (Nat → Nat)} {I I1 : Nat → Nat → Int32} {J : Nat → Nat → Int64} {R : Nat → Nat → Option Nat} {m n k s b nr r : Nat} {f : Nat → Int32}
theorem tr_flt267 (hA : At9 sh R m) (hF : FltM I1 m f n) (hS : Sm (Ftr m s) I I1) (x2 : Int32) : s_X9_tellRule_267 γ l m x2 (sh, I1, J, R) (TrQ sh I J R m f n s r) :=
  w_X9_tellRule_267 hA ⟨I1, e_X9_must (rW_pure (w_X9_must_0 hA ⟨0, ct_isF hA hF.ne.1 _, fun _ => ⟨I1, ct_failF hA hF.ne.2 _, rfl, rfl⟩, fun z => absurd rfl z⟩)), fun z => absurd z hF.ne.2, fun _ => ⟨I1, rfl, rfl, Or.inl hF, hS⟩⟩
theorem tr_flt211 (hA : At9 sh R m) (hF : FltM I1 m f n) (hS : Sm (Ftr m s) I I1) (x2 x3 x4 : Int32) : s_X9_tellRule_211 γ l m x2 x3 x4 (sh, I1, J, R) (TrQ sh I J R m f n s r) :=
  w_X9_tellRule_211 hA ⟨fun _ => tr_flt267 hA hF hS _, fun _ => ⟨fun z => absurd z hF.ne.1, fun _ => tr_flt267 hA hF hS _⟩⟩
/-- the rule's end -/
theorem tr_end (hA : At9 sh R m) (hT : TkT I1 m f n) (hk : k ≤ stopK f n) (hw : qw (qA f n k) = 2) (hd : qd (qA f n k) = 0) (h15 : (tokA f n k).1 < 15) (hs : (qs (qA f n k) = 0 ∧ (tokA f n k).1 ≠ 5) ∨ (qs (qA f n k) = 2 ∧ (tokA f n k).1 ≠ 9 ∧ (tokA f n k).1 ≠ 10)) (h13 : I1 m 13 = 0) (h12 : I1 m 12 = 0) (h11 : I1 m 11 = nI k) (h19 : I1 m 19 = nI s) (h32 : I1 m 32 = nI b) (hb : 500 * s ≤ b ∧ b ≤ 500 * s + (codes (qn (qA f n k) ++ [ruA (qA f n k)])).length) (h14 : I1 (m + 14) s = nI nr) (h3 : 3 * nr ≤ (codes (qn (qA f n k) ++ [ruA (qA f n k)])).length) (hP : PrX I1 m s b nr (qn (qA f n k))) (hr : (qn (qA f n k)).length = r) (hY : RuY I1 m s b nr r (ruA (qA f n k))) (hS : Sm (Ftr m s) I I1) : s_X9_tellRule_267 γ l m (nI (16 * s + r)) (sh, I1, J, R) (TrQ sh I J R m f n s r) := by
  have hK := (stop_at (f := f) (n := n)).1
  have hV := qA_V k hk
  have h16 : (qn (qA f n k)).length < 16 := hV.1.2.2.2 (by omega)
  have hgo : goB (qA f n k) (tokA f n k).1 = decide ((tokA f n k).1 = 6) := by
    unfold goB
    rw [if_neg (by omega), if_neg (by omega), if_neg (by omega), if_neg (by omega)]
    rcases hs with ⟨q1, q2⟩ | ⟨q1, q2, q3⟩
    · rw [if_neg (by omega), if_neg (by omega)]
      simp [q2]
    · rw [if_neg (by omega), if_pos q1]
      simp [q2, q3]
  obtain ⟨kd, t1, t2, t3, t4⟩ := hT k hk
  have hok : TkOk (tokA f n k).1 (tokA f n k).2.1 := tkA_ok
  obtain ⟨k40, _, _, _, _, _, _, _, _, _, k4, _⟩ := KR_f t2 hok
  have j4 := ct_is0 (γ := γ) (l := l) (J := J) (c := 4) hA h13 h11 (by omega) t1 (by omega) (by decide)
  by_cases h6 : (tokA f n k).1 = 6
  · rw [k4.mpr h6] at j4
    obtain ⟨I2, n1, n2, n3⟩ := ct_nextK (γ := γ) (l := l) (J := J) (k := k) hA hT h13 h11 hk (by omega) (by rw [hgo]; exact decide_eq_true h6) (fun z => by omega) (fun z => by omega)
    have hm : rMet γ l m_X9_must [.ref m, .int 4] (sh, I1, J, R) (sh, I2, J, R) none := e_X9_must (rW_pure (w_X9_must_0 hA ⟨_, j4, fun z => absurd z (by decide), fun _ => ⟨I2, n1, rfl, rfl⟩⟩))
    have hS2 : Sm (Ftr m s) I I2 := hS.tr (n2.mono (fun b j z => by unfold Ftr; omega))
    rcases n3 with ⟨n3, _⟩ | ⟨n3, n4, n5, n6⟩
    · exact w_X9_tellRule_267 hA ⟨I2, hm, fun z => absurd z n3.ne.2, fun _ => ⟨I2, rfl, rfl, Or.inl n3, hS2⟩⟩
    · have eq1 : qA f n (k + 1) = ((0, 0, 0), ([], []), qn (qA f n k) ++ [ruA (qA f n k)], (0, [], []), (true, 0, [])) := by
        show stpP (qA f n k) (tokA f n k).1 (tokA f n k).2.1 = _
        rw [h6]
        rfl
      have hV1 := qA_V (k + 1) n5
      have hlen : (codes (qn (qA f n k) ++ [ruA (qA f n k)])).length ≤ 400 := by
        have := hV1.2.2.2.2
        rw [eq1] at this
        unfold clsC at this
        rw [List.length_append] at this
        have e : qn (((0, 0, 0), ([], []), qn (qA f n k) ++ [ruA (qA f n k)], (0, [], []), (true, 0, [])) : Ps) = qn (qA f n k) ++ [ruA (qA f n k)] := rfl
        rw [e] at this
        omega
      obtain ⟨⟨p1, p2, p3, p4⟩, p5, p6⟩ := hP
      have e19 : I2 m 19 = nI s := (n2 _ _ (by omega)).trans h19
      have e14 : I2 (m + 14) s = nI nr := (n2 _ _ (by omega)).trans h14
      have e8 : I2 (m + 8) s = nI r := by rw [n2 _ _ (by omega), p5, hr]
      have hi2 : vp_in (nI s) 2 := vp_in_nI p1 (by decide)
      have hc2 : (nI s).toNatClampNeg = s := nI_clamp (by omega)
      have hi3 : vp_in (nI (16 * s + r)) 32 := vp_in_nI (by omega) (by decide)
      have hc3 : (nI (16 * s + r)).toNatClampNeg = 16 * s + r := nI_clamp (by omega)
      have d0 : ∀ d, 1 ≤ d → ¬ (m = m + d) := fun d hd => by omega
      have d1 : ∀ a b : Nat, a ≠ b → ¬ (m + a = m + b) := fun a b hd => by omega
      refine w_X9_tellRule_267 hA ⟨I2, hm, fun _ => ?_, fun z => absurd (by rw [n3]; decide) z⟩
      simp only [up_at, d0 13 (by omega), d1 8 13 (by omega), false_and, if_false, e19, hc2, e14, hc3, e8, nI_1]
      refine ⟨hi2, hi3, hi2, hi2, _, rfl, rfl, Or.inr ⟨k + 1, ⟨n5, by rw [eq1], ?_, b, nr, ?_, ?_, ?_, ?_, ?_⟩, ?_⟩, (hS2.up ?_).up ?_⟩
      · simp only [up_at, d0 13 (by omega), d0 8 (by omega), false_and, if_false]
        exact ⟨n3, (n2 _ _ (by omega)).trans h12, n4, e19⟩
      · simp only [up_at, d0 13 (by omega), d0 8 (by omega), false_and, if_false]
        exact (n2 _ _ (by omega)).trans h32
      · rw [eq1]; exact hb
      · simp only [up_at, d1 14 13 (by omega), d1 14 8 (by omega), false_and, if_false]
        exact e14
      · rw [eq1]; exact h3
      · rw [eq1]
        refine ⟨⟨p1, by omega, by omega, by show (qn (qA f n k) ++ [ruA (qA f n k)]).length ≤ 16; simp; omega⟩, ?_, fun i hi => ?_⟩
        · show _ = nI (qn (qA f n k) ++ [ruA (qA f n k)]).length
          rw [up_at, if_pos ⟨rfl, rfl⟩, List.length_append, hr]
          rfl
        · rcases getR_snoc hi with ⟨i1, i2⟩ | ⟨i1, i2⟩
          · show RuX _ m s b nr i (gR (qn (qA f n k) ++ [ruA (qA f n k)]) i)
            rw [i2]
            refine (p6 i i1).fr (Nat.le_refl _) (Nat.le_refl _) (fun c j z => ?_)
            rw [up_at, if_neg (by omega), up_at, if_neg (by omega)]
            exact n2 _ _ (by omega)
          · show RuX _ m s b nr i (gR (qn (qA f n k) ++ [ruA (qA f n k)]) i)
            rw [i2]
            have ei : i = r := by omega
            subst ei
            obtain ⟨e, k0, y1, y2, y3, y4, y5, y6, y7⟩ := hY
            have fr : ∀ c j, ¬ (c = m + 13 ∨ c = m + 8 ∨ c = m) → up (up I2 (m + 13) (16 * s + i) (nI nr)) (m + 8) s (nI (i + 1)) c j = I1 c j := by
              intro c j z
              rw [up_at, if_neg (by omega), up_at, if_neg (by omega)]
              exact n2 _ _ (by omega)
            refine ⟨e, k0, by omega, (fr _ _ (by omega)).trans y2, (fr _ _ (by omega)).trans y3, (fr _ _ (by omega)).trans y4, (fr _ _ (by omega)).trans y5, ?_, y6.loc _ _ (fun c j z1 z2 z3 => fr _ _ (by omega)), RelsX.fr (nr := nr) (Nat.le_refl _) (fun c j z => fr _ _ (by omega)) _ _ (by omega) y7⟩
            rw [up_at, if_neg (by omega), up_at, if_pos ⟨rfl, rfl⟩, y1.2.2]
      · rw [eq1]
        show (qn (qA f n k) ++ [ruA (qA f n k)]).length = r + 1
        simp [hr]
      · unfold Ftr; omega
      · unfold Ftr; omega
  · rw [decide_eq_false (fun z => h6 (k4.mp z))] at j4
    obtain ⟨g1, g2⟩ := stop_no hk (by omega) (Or.inr (by rw [hgo]; exact decide_eq_false h6))
    obtain ⟨I3, f1, f2, f3⟩ := ct_failK (γ := γ) (l := l) (J := J) hA hT h13 h11 g1 g2 (by decide)
    have hm : rMet γ l m_X9_must [.ref m, .int 4] (sh, I1, J, R) (sh, I3, J, R) none := e_X9_must (rW_pure (w_X9_must_0 hA ⟨_, j4, fun _ => ⟨I3, f1, rfl, rfl⟩, fun z => absurd rfl z⟩))
    exact w_X9_tellRule_267 hA ⟨I3, hm, fun z => absurd z f2.ne.2, fun _ => ⟨I3, rfl, rfl, Or.inl f2, hS.tr (f3.mono (fun b j z => by unfold Ftr; omega))⟩⟩
end MTR
