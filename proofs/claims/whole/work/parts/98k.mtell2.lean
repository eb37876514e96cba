/-! ===== the model's tellRule: its relations ===== -/
theorem PrX.fr2 {I I' : Nat → Nat → Int32} {m s b b' nr nr' : Nat} {Rs : List Rul} (h : PrX I m s b nr Rs) (hb : b ≤ b' ∧ b' ≤ 500 * s + 401) (hn : nr ≤ nr' ∧ nr' ≤ 200) (hq : ∀ c j, (c = m + 8 ∧ j = s) ∨ (m + 9 ≤ c ∧ c ≤ m + 13 ∧ 16 * s ≤ j ∧ j < 16 * s + Rs.length) ∨ (m + 15 ≤ c ∧ c ≤ m + 19 ∧ 200 * s ≤ j ∧ j < 200 * s + nr) ∨ ((c = m + 20 ∨ c = m + 21) ∧ 500 * s ≤ j ∧ j < b) → I' c j = I c j) : PrX I' m s b' nr' Rs := by
  obtain ⟨⟨h1, h2, h3, h4⟩, h5, h6⟩ := h
  exact ⟨⟨h1, hb.2, hn.2, h4⟩, (hq _ _ (Or.inl ⟨rfl, rfl⟩)).trans h5, fun r hr => (h6 r hr).fr hb.1 hn.1 (fun c j z => hq c j (by omega))⟩
theorem emA_len (r : Rl) (rl : List Rl) (o : Bool) : (emA rl r.1).length + (relJ r).length ≤ (emA (rl ++ [r]) o).length := by
  cases o
  · obtain ⟨A, B, _, _, _, h, _⟩ := emA_and r rl
    rw [h]
    simp only [List.length_append]
    omega
  · rw [(emA_or r rl).1]
    simp only [List.length_append]
    omega
theorem relJ_len (r : Rl) : (relJ r).length = r.2.2.1.length + r.2.2.2.length + 1 := by
  unfold relJ
  simp only [List.length_append, List.length_singleton]
  omega
theorem preC1_len (c : Nat) (a : List Rul) (e : List Itm) (rl : List Rl) (o : Bool) (x : Nat × List Itm) : (preC 1 (a, (c, e, rl), (o, x))).length = (codes a).length + e.length + (emA rl o).length := by
  unfold preC
  simp only [List.length_append, if_neg (show ¬ (1 : Nat) = 0 by decide), if_neg (show ¬ (1 : Nat) = 2 by decide), List.length_nil]
  omega
def TrI (I I1 : Nat → Nat → Int32) (m : Nat) (f : Nat → Int32) (n s r nr k : Nat) : Prop := k ≤ stopK f n ∧ (qw (qA f n k) = 1 ∧ qo (qA f n k) = [] ∧ qx (qA f n k) = [] ∧ qd (qA f n k) = 0) ∧ qs (qA f n k) = 1 ∧ (I1 m 13 = 0 ∧ I1 m 12 = 0 ∧ I1 m 11 = nI k ∧ I1 m 19 = nI s) ∧ (qn (qA f n k)).length = r ∧ I1 (m + 14) s = nI nr ∧ (∃ b, I1 m 32 = nI b ∧ (500 * s ≤ b ∧ b ≤ 500 * s + (preC 1 (qA f n k).2.2).length) ∧ 3 * nr ≤ (preC 1 (qA f n k).2.2).length ∧ PrX I1 m s b nr (qn (qA f n k)) ∧ RuY I1 m s b nr r (qc (qA f n k), qe (qA f n k), qr (qA f n k))) ∧ Sm (Ftr m s) I I1
section MTR2
variable {γ : rG} {l : Launch} {sh : Nat × (Nat → Nat) × (Nat → Nat)} {I : Nat → Nat → Int32} {J : Nat → Nat → Int64} {R : Nat → Nat → Option Nat} {m n k s r : Nat} {f : Nat → Int32}
theorem tr_loop (hA : At9 sh R m) (hT : TkT I m f n) : ∀ d nr k I1, nr + d = 134 → TrI I I1 m f n s r nr k → s_X9_tellRule_211 γ l m (nI (16 * s + r)) 1 (nz (qf (qA f n k))) (sh, I1, J, R) (TrQ sh I J R m f n s r) := by
  intro d
  induction d with
  | zero =>
    intro nr k I1 hd h
    obtain ⟨hk, _, hs1, _, _, _, ⟨b, _, _, h3, _⟩, _⟩ := h
    have hc := (qA_V k hk).2.2.2.2
    have hK := (stop_at (f := f) (n := n)).1
    rw [clsC_eq, hs1] at hc
    simp only [List.length_append] at hc
    omega
  | succ d ih =>
    intro nr k I1 hd h
    obtain ⟨hk, hq, hs1, ⟨h13, h12, h11, h19⟩, hr, h14, ⟨b, h32, hb, h3, hP, hY⟩, hS⟩ := h
    have hK := (stop_at (f := f) (n := n)).1
    have hT1 : TkT I1 m f n := hT.fr (fun c j z => hS _ _ (by unfold Ftr; omega))
    have hs := hP.1.1
    have hV0 := qA_V k hk
    have h16 : (qn (qA f n k)).length < 16 := hV0.1.2.2.2 (by omega)
    obtain ⟨I5, c1, c2, c3⟩ := ct_relation (γ := γ) (l := l) (J := J) (nr := nr) hA hT1 hk hq hs1 h12 h13 h11 h32 hb hs h19 h14 (by omega)
    have hS5 : Sm (Ftr m s) I I5 := hS.tr (c3.mono (fun c j z => by unfold Frx Fex at z; unfold Ftr; omega))
    have hT5 : TkT I5 m f n := hT.fr (fun c j z => hS5 _ _ (by unfold Ftr; omega))
    refine w_X9_tellRule_211 hA ⟨fun z => absurd z (by decide), fun _ => ⟨fun _ => ?_, fun z => absurd h13 z⟩⟩
    rcases c2 with c2 | ⟨k2, kk, lf, p1, ⟨p13, p11, p12⟩, ⟨pw, ps, pd, pe⟩, pt, p32, pR, p14⟩
    · exact ⟨I5, c1, 0, ct_isF hA c2.ne.1 _, fun _ => ⟨0, ct_isF hA c2.ne.1 _, fun _ => tr_flt211 hA c2 hS5 _ _ _, fun z => absurd rfl z⟩, fun z => absurd rfl z⟩
    · have hV2 := qA_V k2 p1
      have w1 := wfK_len (hV2.2.2.1.2.2.2.1 ps).1
      have w2 := wfK_len (hV2.fl pw pd)
      have e19 : I5 m 19 = nI s := (c3 _ _ (by unfold Frx Fex; omega)).trans h19
      have ern : qn (qA f n k2) = qn (qA f n k) := by show (qA f n k2).2.2.1 = _; rw [pe]
      have erc : qc (qA f n k2) = qc (qA f n k) := by show (qA f n k2).2.2.2.1.1 = _; rw [pe]
      have ere : qe (qA f n k2) = qe (qA f n k) := by show (qA f n k2).2.2.2.1.2.1 = _; rw [pe]
      have erl : rlA (qA f n k2) = qr (qA f n k) ++ [(qf (qA f n k), kk, lf, fl (qA f n k2))] := by
        unfold rlA
        show (qA f n k2).2.2.2.1.2.2 ++ [((qA f n k2).2.2.2.2.1, (qA f n k2).2.2.2.2.2.1, (qA f n k2).2.2.2.2.2.2, _)] = _
        rw [pe]
      have ell : ql (qA f n k2) = lf := by show (qA f n k2).2.2.2.2.2.2 = _; rw [pe]
      rw [ell] at w1
      generalize hfl : fl (qA f n k2) = fx at p32 pR erl w2
      have hpl : (preC 1 (qA f n k).2.2).length = (codes (qn (qA f n k))).length + (qe (qA f n k)).length + (emA (qr (qA f n k)) (qf (qA f n k))).length := preC1_len (qc (qA f n k)) _ _ _ _ (qA f n k).2.2.2.2.2
      have hrj := relJ_len (qf (qA f n k), kk, lf, fx)
      simp only at hrj
      have hb2 : 500 * s ≤ b + lf.length + fx.length ∧ b + lf.length + fx.length ≤ 500 * s + 401 := by
        have hc := hV2.2.2.2.2
        rw [clsC_eq, Wq_eq, ps, pe] at hc
        have h1 : (preC 2 (qn (qA f n k), (qc (qA f n k), qe (qA f n k), qr (qA f n k)), (qf (qA f n k), kk, lf))).length = (preC 1 (qA f n k).2.2).length + lf.length := by
          rw [hpl]
          simp [preC]
          omega
        have h2 : fx.length = (qx (qA f n k2)).length + (qo (qA f n k2)).length := by
          rw [← hfl]; unfold fl; simp
        simp only [List.length_append, h1] at hc
        omega
      have fr5 : ∀ c j, ¬ Frx m s b nr c j → I5 c j = I1 c j := fun c j z => c3 c j z
      have hP5 : PrX I5 m s (b + lf.length + fx.length) (nr + 1) (qn (qA f n k)) := hP.fr2 (by omega) (by omega) (fun c j z => fr5 _ _ (by unfold Frx Fex; omega))
      have hY5 : RuY I5 m s (b + lf.length + fx.length) (nr + 1) r (qc (qA f n k), qe (qA f n k), qr (qA f n k) ++ [(qf (qA f n k), kk, lf, fx)]) := by
        obtain ⟨e, k0, y1, y2, y3, y4, y5, y6, y7⟩ := hY
        simp only at y1 y2 y3 y4 y5 y6 y7
        refine ⟨e, k0, ⟨y1.1, by simp only; omega, by simp only [List.length_append, List.length_singleton]; omega⟩, (fr5 _ _ (by unfold Frx Fex; omega)).trans y2, (fr5 _ _ (by unfold Frx Fex; omega)).trans y3, (fr5 _ _ (by unfold Frx Fex; omega)).trans y4, (fr5 _ _ (by unfold Frx Fex; omega)).trans y5, y6.loc _ _ (fun c j z1 z2 z3 => fr5 _ _ (by unfold Frx Fex; omega)), RelsX_snoc _ _ (RelsX.fr (nr := nr) (by omega) (fun c j z => fr5 _ _ (by unfold Frx Fex; omega)) _ _ (by omega) y7) ?_⟩
        rw [show k0 + (qr (qA f n k)).length = nr from y1.2.2]
        exact pR
      obtain ⟨kd, t1, t2, t3, t4⟩ := hT5 k2 p1
      have hok : TkOk (tokA f n k2).1 (tokA f n k2).2.1 := tkA_ok
      obtain ⟨k40, _, _, _, _, _, _, _, _, _, _, k27, k28, _⟩ := KR_f t2 hok
      have j27 := ct_is0 (γ := γ) (l := l) (J := J) (c := 27) hA p13 p11 (by omega) t1 (by omega) (by decide)
      have j28 := ct_is0 (γ := γ) (l := l) (J := J) (c := 28) hA p13 p11 (by omega) t1 (by omega) (by decide)
      have step : ((tokA f n k2).1 = 10 ∨ (tokA f n k2).1 = 9) → ∃ I6, rMet γ l m_X9_next [.ref m] (sh, I5, J, R) (sh, I6, J, R) none ∧ s_X9_tellRule_211 γ l m (nI (16 * s + r)) 1 (nz (decide ((tokA f n k2).1 = 9))) (sh, I6, J, R) (TrQ sh I J R m f n s r) := by
        intro hz
        have hg : goB (qA f n k2) (tokA f n k2).1 = true := by
          unfold goB
          rw [if_neg (by omega), if_neg (by omega), if_neg (by omega), if_neg (by omega), if_neg (by omega), if_pos ps]
          exact decide_eq_true (by omega)
        obtain ⟨I6, n1, n2, n3⟩ := ct_nextK (γ := γ) (l := l) (J := J) (k := k2) hA hT5 p13 p11 p1 (by omega) hg (fun z => by omega) (fun z => by omega)
        have hS6 : Sm (Ftr m s) I I6 := hS5.tr (n2.mono (fun b j z => by unfold Ftr; omega))
        refine ⟨I6, n1, ?_⟩
        rcases n3 with ⟨n3, _⟩ | ⟨n3, n4, n5, n6⟩
        · exact tr_flt211 hA n3 hS6 _ _ _
        · have eq1 : qA f n (k2 + 1) = ((1, 1, 0), ([], []), qn (qA f n k), (qc (qA f n k), qe (qA f n k), qr (qA f n k) ++ [(qf (qA f n k), kk, lf, fx)]), (decide ((tokA f n k2).1 = 9), 0, [])) := by
            show stpP (qA f n k2) (tokA f n k2).1 (tokA f n k2).2.1 = _
            rw [stp9 hz, ern, erc, ere, erl]
          have hem := emA_len (qf (qA f n k), kk, lf, fx) (qr (qA f n k)) (decide ((tokA f n k2).1 = 9))
          simp only at hem
          have t := ih (nr + 1) (k2 + 1) I6 (by omega) (by
            unfold TrI
            rw [eq1]
            refine ⟨n5, ⟨rfl, rfl, rfl, rfl⟩, rfl, ⟨n3, (n2 _ _ (by omega)).trans p12, n4, (n2 _ _ (by omega)).trans e19⟩, hr, (n2 _ _ (by omega)).trans p14, ⟨b + lf.length + fx.length, (n2 _ _ (by omega)).trans p32, ?_, ?_, hP5.fr2 (by omega) (by omega) (fun c j z => n2 _ _ (by omega)), ?_⟩, hS6⟩
            · rw [preC1_len]; omega
            · rw [preC1_len]; omega
            · obtain ⟨e, k0, y1, y2, y3, y4, y5, y6, y7⟩ := hY5
              exact ⟨e, k0, y1, (n2 _ _ (by omega)).trans y2, (n2 _ _ (by omega)).trans y3, (n2 _ _ (by omega)).trans y4, (n2 _ _ (by omega)).trans y5, y6.loc _ _ (fun c j z1 z2 z3 => n2 _ _ (by omega)), RelsX.fr (nr := nr + 1) (Nat.le_refl _) (fun c j z => n2 _ _ (by omega)) _ _ (Nat.le_of_eq y1.2.2) y7⟩)
          rw [eq1] at t
          exact t
      refine ⟨I5, c1, _, j27, fun z27 => ⟨_, j28, fun z28 => ?_, fun z28 => ?_⟩, fun z27 => ?_⟩
      · rw [nzd0] at z27 z28
        refine w_X9_tellRule_211 hA ⟨fun _ => ?_, fun z => absurd rfl z⟩
        have eru : ruA (qA f n k2) = (qc (qA f n k), qe (qA f n k), qr (qA f n k) ++ [(qf (qA f n k), kk, lf, fx)]) := by
          unfold ruA
          rw [if_neg (by omega), erc, ere, erl]
        have hcl : (codes (qn (qA f n k2) ++ [ruA (qA f n k2)])).length ≥ (preC 1 (qA f n k).2.2).length + lf.length + fx.length + 1 := by
          rw [ern, eru, codes_snoc]
          simp only [List.length_append, cndT_snoc]
          omega
        exact tr_end (k := k2) (b := b + lf.length + fx.length) (nr := nr + 1) hA hT5 p1 pw pd pt (Or.inr ⟨ps, fun z => z27 (k27.mpr z), fun z => z28 (k28.mpr z)⟩) p13 p12 p11 e19 p32 (by omega) p14 (by omega) (by rw [ern]; exact hP5) (by rw [ern]; exact hr) (by rw [eru]; exact hY5) hS5
      · rw [nzd0] at z27
        rw [nzd0, Classical.not_not] at z28
        obtain ⟨I6, s1, s2⟩ := step (Or.inl (k28.mp z28))
        rw [decide_eq_false z27]
        rw [decide_eq_false (fun y => z27 (k27.mpr y))] at s2
        exact ⟨I6, s1, s2⟩
      · rw [nzd0, Classical.not_not] at z27
        obtain ⟨I6, s1, s2⟩ := step (Or.inr (k27.mp z27))
        rw [decide_eq_true z27]
        rw [decide_eq_true (k27.mp z27)] at s2
        exact ⟨I6, s1, s2⟩
end MTR2
