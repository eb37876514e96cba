/-! ===== the model's tellRule: the contract ===== -/
section MTR3
variable {γ : rG} {l : Launch} {sh : Nat × (Nat → Nat) × (Nat → Nat)} {I : Nat → Nat → Int32} {J : Nat → Nat → Int64} {R : Nat → Nat → Option Nat} {m n k s : Nat} {f : Nat → Int32}
theorem ct_tellRule (hA : At9 sh R m) (hT : TkT I m f n) (h : RdI I m f n s k) (h0 : (tokA f n k).1 ≠ 0) : ∃ I', rMet γ l m_X9_tellRule [.ref m] (sh, I, J, R) (sh, I', J, R) none ∧ (TrP I' m f n s (qn (qA f n k)).length ∧ Sm (Ftr m s) I I') := by
  obtain ⟨hk, hw, ⟨h13, h12, h11, h19⟩, b, nr, h32, hb, h14, h3, hP⟩ := h
  have hK := (stop_at (f := f) (n := n)).1
  have hV := qA_V k hk
  have hq0 := hV.1.2.2.1 hw
  have hs := hP.1.1
  have hl16 := hP.1.2.2.2
  have hln : (codes (qn (qA f n k))).length ≤ 400 := by
    have := hV.2.2.2.2
    unfold clsC at this
    rw [List.length_append] at this
    omega
  obtain ⟨kd, t1, t2, t3, t4⟩ := hT k hk
  have hok : TkOk (tokA f n k).1 (tokA f n k).2.1 := tkA_ok
  obtain ⟨k40, _, _, _, _, _, _, _, _, _, _, _, _, _, _, _, k4, k4v⟩ := KR_f t2 hok
  have hv6 := hok.2.2.2
  generalize hrr : (qn (qA f n k)).length = r at hl16
  have e8 : I (m + 8) s = nI r := by rw [hP.2.1, hrr]
  have hi2 : vp_in (nI s) 2 := vp_in_nI hs (by decide)
  have hc2 : (nI s).toNatClampNeg = s := nI_clamp (by omega)
  have j20 := ct_is0 (γ := γ) (l := l) (J := J) (c := 20) hA h13 h11 (by omega) t1 (by omega) (by decide)
  have j22 := ct_is0 (γ := γ) (l := l) (J := J) (c := 22) hA h13 h11 (by omega) t1 (by omega) (by decide)
  have j23 := ct_is0 (γ := γ) (l := l) (J := J) (c := 23) hA h13 h11 (by omega) t1 (by omega) (by decide)
  have j24 := ct_is0 (γ := γ) (l := l) (J := J) (c := 24) hA h13 h11 (by omega) t1 (by omega) (by decide)
  have j25 := ct_is0 (γ := γ) (l := l) (J := J) (c := 25) hA h13 h11 (by omega) t1 (by omega) (by decide)
  have j26 := ct_is0 (γ := γ) (l := l) (J := J) (c := 26) hA h13 h11 (by omega) t1 (by omega) (by decide)
  suffices hh : s_X9_tellRule_0 γ l m (sh, I, J, R) (TrQ sh I J R m f n s r) by
    obtain ⟨I', q1, q2⟩ := rW_ex hh
    exact ⟨I', e_X9_tellRule q1, q2⟩
  have f91 : ∀ I3, FltM I3 m f n → Sm (fun b j => b = m ∧ (j = 13 ∨ j = 14)) I I3 → s_X9_tellRule_91 γ l m (sh, I3, J, R) (TrQ sh I J R m f n s r) := fun I3 hF hS => w_X9_tellRule_91 hA ⟨fun z => absurd z hF.ne.2, fun _ => ⟨I3, rfl, rfl, Or.inl hF, hS.mono (fun b j z => by unfold Ftr; omega)⟩⟩
  have a59 : (tokA f n k).1 ≠ 4 → s_X9_tellRule_59 γ l m 0 (sh, I, J, R) (TrQ sh I J R m f n s r) := by
    intro hz
    obtain ⟨g1, g2⟩ := stop_fau (c := 1) hk h0 (by
      unfold fauA goB
      rw [if_pos hw, if_pos (decide_eq_false hz)]) (by decide)
    obtain ⟨I3, f1, f2, f3⟩ := ct_failK (γ := γ) (l := l) (J := J) hA hT h13 h11 g1 g2 (by decide)
    exact w_X9_tellRule_59 hA ⟨fun _ => ⟨I3, f1, f91 I3 f2 f3⟩, fun z => absurd rfl z⟩
  have a54 : (tokA f n k).1 = 4 → s_X9_tellRule_54 γ l m (sh, I, J, R) (TrQ sh I J R m f n s r) := by
    intro hz
    have hg : goB (qA f n k) (tokA f n k).1 = true := by
      unfold goB
      rw [if_pos hw]
      exact decide_eq_true hz
    refine w_X9_tellRule_54 hA (w_X9_tellRule_59 hA ⟨fun z => absurd z (by decide), fun _ => ?_⟩)
    rw [h19, hc2, e8]
    refine ⟨hi2, fun z => ?_, fun z => ?_⟩
    · rw [show (16 : Int32) = nI 16 from rfl, nI_eq (by omega) (by decide)] at z
      obtain ⟨g1, g2⟩ := stop_fau (c := 2) hk h0 (by
        unfold fauA
        rw [if_neg (by rw [hg]; decide), if_pos (by omega)]) (by decide)
      obtain ⟨I3, f1, f2, f3⟩ := ct_failK (γ := γ) (l := l) (J := J) hA hT h13 h11 g1 g2 (by decide)
      exact ⟨I3, f1, f91 I3 f2 f3⟩
    · rw [show (16 : Int32) = nI 16 from rfl, nI_eq (by omega) (by decide)] at z
      have hr16 : r < 16 := by omega
      have hi3 : vp_in (nI (16 * s + r)) 32 := vp_in_nI (by omega) (by decide)
      have hc3 : (nI (16 * s + r)).toNatClampNeg = 16 * s + r := nI_clamp (by omega)
      have d0 : ∀ d, 1 ≤ d → ¬ (m = m + d) := fun d hd => by omega
      have d1 : ∀ a b : Nat, a ≠ b → ¬ (m + a = m + b) := fun a b hd => by omega
      -- the rule's head is read
      have a149 : s_X9_tellRule_149 γ l m (nI (16 * s + r)) (nI (tokA f n k).2.1) (nI (16 * s + r)) (m + 9) (sh, I, J, R) (TrQ sh I J R m f n s r) := by
        obtain ⟨_, k9, g9⟩ := At9_21 hA
        generalize hIa : up I (m + 9) (16 * s + r) (nI (tokA f n k).2.1) = Ia
        have fra : ∀ c j, ¬ (c = m + 9 ∧ j = 16 * s + r) → Ia c j = I c j := by
          intro c j y
          rw [← hIa, up_at, if_neg y]
        obtain ⟨I2, n1, n2, n3⟩ := ct_nextK (γ := γ) (l := l) (J := J) (k := k) hA (hT.fr (fun c j y => fra _ _ (by omega))) ((fra _ _ (by omega)).trans h13) ((fra _ _ (by omega)).trans h11) hk h0 hg (fun _ => by omega) (fun y => by omega)
        have hS2 : Sm (Ftr m s) I I2 := Sm.tr (I' := Ia) (fun c j y => fra c j (fun z => y (by unfold Ftr; omega))) (n2.mono (fun c j y => by unfold Ftr; omega))
        have e32 : I2 m 32 = nI b := (n2 _ _ (by omega)).trans ((fra _ _ (by omega)).trans h32)
        have hSb : Sm (Ftr m s) I (up I2 (m + 10) (16 * s + r) (nI b)) := hS2.up (by unfold Ftr; omega)
        refine w_X9_tellRule_149 hA k9 g9 ?_
        rw [hc3, hIa]
        refine ⟨hi3, I2, n1, hi3, ?_⟩
        rw [e32]
        generalize hIb : up I2 (m + 10) (16 * s + r) (nI b) = Ib at hSb
        have frb : ∀ c j, ¬ (c = m + 10 ∧ j = 16 * s + r) → Ib c j = I2 c j := by
          intro c j y
          rw [← hIb, up_at, if_neg y]
        -- what is left after a fault
        have flt : ∀ I5, FltM I5 m f n → Sm (Ftr m s) I I5 → vp_in (nI (16 * s + r)) 32 ∧ (vp_in ((up I5 (m + 11) (16 * s + r) (I5 m 32)) m 19) 2 ∧ (vp_in (nI (16 * s + r)) 32 ∧ (∃ (v11 : Int32), rMet γ l m_X9_is [.ref m, .int 21] (sh, (up (up I5 (m + 11) (16 * s + r) (I5 m 32)) (m + 12) (16 * s + r) (((up I5 (m + 11) (16 * s + r) (I5 m 32)) (m + 14) (((up I5 (m + 11) (16 * s + r) (I5 m 32)) m 19)).toNatClampNeg))), J, R) (sh, (up (up I5 (m + 11) (16 * s + r) (I5 m 32)) (m + 12) (16 * s + r) (((up I5 (m + 11) (16 * s + r) (I5 m 32)) (m + 14) (((up I5 (m + 11) (16 * s + r) (I5 m 32)) m 19)).toNatClampNeg))), J, R) (some (.int v11)) ∧ ((v11 = 0 → s_X9_tellRule_211 γ l m (nI (16 * s + r)) v11 1 (sh, (up (up I5 (m + 11) (16 * s + r) (I5 m 32)) (m + 12) (16 * s + r) (((up I5 (m + 11) (16 * s + r) (I5 m 32)) (m + 14) (((up I5 (m + 11) (16 * s + r) (I5 m 32)) m 19)).toNatClampNeg))), J, R) (TrQ sh I J R m f n s r)) ∧ (¬ v11 = 0 → (∃ (I14 : Nat → Nat → Int32), rMet γ l m_X9_next [.ref m] (sh, (up (up I5 (m + 11) (16 * s + r) (I5 m 32)) (m + 12) (16 * s + r) (((up I5 (m + 11) (16 * s + r) (I5 m 32)) (m + 14) (((up I5 (m + 11) (16 * s + r) (I5 m 32)) m 19)).toNatClampNeg))), J, R) (sh, I14, J, R) none ∧ s_X9_tellRule_211 γ l m (nI (16 * s + r)) v11 1 (sh, I14, J, R) (TrQ sh I J R m f n s r))))))) := by
          intro I5 hF hS
          have e19 : I5 m 19 = nI s := (hS _ _ (by unfold Ftr; omega)).trans h19
          simp only [up_at, d0 11 (by omega), d1 14 11 (by omega), false_and, if_false, e19, hc2]
          have hF' : FltM (up (up I5 (m + 11) (16 * s + r) (I5 m 32)) (m + 12) (16 * s + r) (I5 (m + 14) s)) m f n := hF.fr (fun j y => by rw [up_at, if_neg (by omega), up_at, if_neg (by omega)])
          exact ⟨hi3, hi2, hi3, 0, ct_isF hA hF'.ne.1 _, fun _ => tr_flt211 hA hF' ((hS.up (by unfold Ftr; omega)).up (by unfold Ftr; omega)) _ _ _, fun y => absurd rfl y⟩
        rcases n3 with ⟨n3, _⟩ | ⟨n3, n4, n5, n6⟩
        · have hFb : FltM Ib m f n := n3.fr (fun j y => frb _ _ (by omega))
          exact ⟨_, ct_expressionF hA hFb.ne.1, flt _ (hFb.fr (fun j y => by rw [up_at, if_neg (by omega)])) (hSb.up (by unfold Ftr; omega))⟩
        · have eq1 : qA f n (k + 1) = ((1, 0, 0), ([], []), qn (qA f n k), ((tokA f n k).2.1, [], []), (true, 0, [])) := by
            show stpP (qA f n k) (tokA f n k).1 (tokA f n k).2.1 = _
            rw [hz]
            rfl
          have hTb : TkT Ib m f n := hT.fr (fun c j y => hSb _ _ (by unfold Ftr; omega))
          obtain ⟨I5, u1, u2, u3⟩ := ct_expression (γ := γ) (l := l) (J := J) (base := b) (lim := 500 * s + 401) (k := k + 1) (I := Ib) hA hTb n5 (by rw [eq1]; exact ⟨rfl, rfl, rfl, rfl⟩) ((frb _ _ (by omega)).trans ((n2 _ _ (by omega)).trans ((fra _ _ (by omega)).trans h12))) ((frb _ _ (by omega)).trans n3) ((frb _ _ (by omega)).trans n4) ((frb _ _ (by omega)).trans e32) (by
            rw [eq1]
            show _ ≤ _ + (preC 0 (qn (qA f n k), ((tokA f n k).2.1, [], []), (true, 0, []))).length ∧ _
            have : (preC 0 (qn (qA f n k), ((tokA f n k).2.1, [], []), (true, 0, []))).length = (codes (qn (qA f n k))).length := by simp [preC]
            rw [this]
            omega)
          have hS5 : Sm (Ftr m s) I I5 := hSb.tr (u3.mono (fun c j y => by unfold Fex at y; unfold Ftr; omega))
          refine ⟨I5, u1, ?_⟩
          rcases u2 with u2 | ⟨k1, p1, p13, p11, p12, pw, pd, ps, pe, pt, p32, pS⟩
          · exact flt I5 u2 hS5
          · rw [eq1] at ps pe
            have ps : qs (qA f n k1) = 0 := ps
            have e19 : I5 m 19 = nI s := (hS5 _ _ (by unfold Ftr; omega)).trans h19
            have fr5 : ∀ c j, ¬ (c = m + 9 ∧ j = 16 * s + r) → ¬ (c = m + 10 ∧ j = 16 * s + r) → ¬ (c = m ∧ (j = 11 ∨ j = 13 ∨ j = 14)) → ¬ Fex m b (500 * s + 401) c j → I5 c j = I c j := fun c j y1 y2 y3 y4 => (u3 c j y4).trans ((frb c j y2).trans ((n2 c j y3).trans (fra c j y1)))
            have e14 : I5 (m + 14) s = nI nr := (fr5 _ _ (by omega) (by omega) (by omega) (by unfold Fex; omega)).trans h14
            have e9 : I5 (m + 9) (16 * s + r) = nI (tokA f n k).2.1 := by
              refine (u3 _ _ (by unfold Fex; omega)).trans ((frb _ _ (by omega)).trans ((n2 _ _ (by omega)).trans ?_))
              rw [← hIa]
              show up I (m + 9) (16 * s + r) (nI (tokA f n k).2.1) (m + 9) (16 * s + r) = _
              rw [up_at, if_pos ⟨rfl, rfl⟩]
            have e10 : I5 (m + 10) (16 * s + r) = nI b := by
              rw [u3 _ _ (by unfold Fex; omega), ← hIb, up_at, if_pos ⟨rfl, rfl⟩]
            have ern : qn (qA f n k1) = qn (qA f n k) := by show (qA f n k1).2.2.1 = _; rw [pe]
            have erc : qc (qA f n k1) = (tokA f n k).2.1 := by show (qA f n k1).2.2.2.1.1 = _; rw [pe]
            have hV1 := qA_V k1 p1
            generalize hfl : fl (qA f n k1) = fx at p32 pS
            have hb1 : b + fx.length ≤ 500 * s + 401 := by
              have hc := hV1.2.2.2.2
              rw [clsC_eq, Wq_eq, ps, pe] at hc
              have h1 : (preC 0 (qn (qA f n k), ((tokA f n k).2.1, [], []), (true, 0, []))).length = (codes (qn (qA f n k))).length := by simp [preC]
              have h2 : fx.length = (qx (qA f n k1)).length + (qo (qA f n k1)).length := by
                rw [← hfl]; unfold fl; simp
              have h1' : (preC 0 (qn (qA f n k), (((tokA f n k).2.1, [], []), (true, 0, [])))).length = (codes (qn (qA f n k))).length := h1
              simp only [List.length_append] at hc
              have hc' : (qo (qA f n k1)).length + (sufW 0 (qn (qA f n k), ((tokA f n k).2.1, [], []), (true, 0, []))).length + ((preC 0 (qn (qA f n k), ((tokA f n k).2.1, [], []), (true, 0, []))).length + (qx (qA f n k1)).length) ≤ k1 := hc
              rw [h1] at hc'
              omega
            simp only [up_at, d0 11 (by omega), d1 14 11 (by omega), false_and, if_false, e19, hc2, e14, p32]
            refine ⟨hi3, hi2, hi3, ?_⟩
            generalize hIc : up (up I5 (m + 11) (16 * s + r) (nI (b + fx.length))) (m + 12) (16 * s + r) (nI nr) = Ic
            have frc : ∀ c j, ¬ ((c = m + 11 ∨ c = m + 12) ∧ j = 16 * s + r) → Ic c j = I5 c j := by
              intro c j y
              rw [← hIc, up_at, if_neg (by omega), up_at, if_neg (by omega)]
            have e11 : Ic (m + 11) (16 * s + r) = nI (b + fx.length) := by
              rw [← hIc, up_at, if_neg (by omega), up_at, if_pos ⟨rfl, rfl⟩]
            have e12 : Ic (m + 12) (16 * s + r) = nI nr := by
              rw [← hIc, up_at, if_pos ⟨rfl, rfl⟩]
            have hSc : Sm (Ftr m s) I Ic := hS5.tr (fun c j y => frc c j (fun z => y (by unfold Ftr; omega)))
            have hTc : TkT Ic m f n := hT.fr (fun c j y => hSc _ _ (by unfold Ftr; omega))
            have c13 : Ic m 13 = 0 := (frc _ _ (by omega)).trans p13
            have c11 : Ic m 11 = nI k1 := (frc _ _ (by omega)).trans p11
            have c12 : Ic m 12 = 0 := (frc _ _ (by omega)).trans p12
            have c19 : Ic m 19 = nI s := (frc _ _ (by omega)).trans e19
            have c32 : Ic m 32 = nI (b + fx.length) := (frc _ _ (by omega)).trans p32
            have c14 : Ic (m + 14) s = nI nr := (frc _ _ (by omega)).trans e14
            have hPc : PrX Ic m s (b + fx.length) nr (qn (qA f n k)) := hP.fr2 (by omega) (by omega) (fun c j y => (frc _ _ (by omega)).trans (fr5 _ _ (by omega) (by omega) (by omega) (by unfold Fex; omega)))
            have hYc : RuY Ic m s (b + fx.length) nr r ((tokA f n k).2.1, fx, []) := ⟨b, nr, ⟨hb.1, by simp only; omega, by simp⟩, (frc _ _ (by omega)).trans e9, (frc _ _ (by omega)).trans e10, e11, e12, pS.loc _ _ (fun c j y1 y2 y3 => frc _ _ (by omega)), trivial⟩
            obtain ⟨kd1, v1, v2, v3, v4⟩ := hTc k1 p1
            have hok1 : TkOk (tokA f n k1).1 (tokA f n k1).2.1 := tkA_ok
            obtain ⟨w40, _, _, _, _, _, _, _, _, w21, _⟩ := KR_f v2 hok1
            have j21 := ct_is0 (γ := γ) (l := l) (J := J) (c := 21) hA c13 c11 (by omega) v1 (by omega) (by decide)
            refine ⟨_, j21, fun z21 => ?_, fun z21 => ?_⟩
            · refine w_X9_tellRule_211 hA ⟨fun _ => ?_, fun y => absurd z21 y⟩
              rw [nzd0] at z21
              have eru : ruA (qA f n k1) = ((tokA f n k).2.1, fx, []) := by
                unfold ruA
                rw [if_pos ps, erc, hfl]
              have hcl : (codes (qn (qA f n k1) ++ [ruA (qA f n k1)])).length ≥ (codes (qn (qA f n k))).length + fx.length := by
                rw [ern, eru, codes_snoc]
                simp only [List.length_append]
                omega
              exact tr_end (k := k1) (b := b + fx.length) (nr := nr) hA hTc p1 pw pd pt (Or.inl ⟨ps, fun y => z21 (w21.mpr y)⟩) c13 c12 c11 c19 c32 (by omega) c14 (by omega) (by rw [ern]; exact hPc) (by rw [ern]; exact hrr) (by rw [eru]; exact hYc) hSc
            · have z21' := z21
              rw [nzd0, Classical.not_not] at z21'
              have hs5 := w21.mp z21'
              have hg1 : goB (qA f n k1) (tokA f n k1).1 = true := by
                unfold goB
                rw [if_neg (by omega), if_neg (by omega), if_neg (by omega), if_neg (by omega), if_neg (by omega), if_neg (by omega)]
                exact decide_eq_true (Or.inl hs5)
              obtain ⟨I6, x1, x2, x3⟩ := ct_nextK (γ := γ) (l := l) (J := J) (k := k1) hA hTc c13 c11 p1 (by omega) hg1 (fun y => by omega) (fun y => by omega)
              have hS6 : Sm (Ftr m s) I I6 := hSc.tr (x2.mono (fun c j y => by unfold Ftr; omega))
              refine ⟨I6, x1, ?_⟩
              rcases x3 with ⟨x3, _⟩ | ⟨x3, x4, x5, x6⟩
              · exact tr_flt211 hA x3 hS6 _ _ _
              · have eq2 : qA f n (k1 + 1) = ((1, 1, 0), ([], []), qn (qA f n k), ((tokA f n k).2.1, fx, []), (true, 0, [])) := by
                  show stpP (qA f n k1) (tokA f n k1).1 (tokA f n k1).2.1 = _
                  rw [hs5]
                  show ((1, 1, 0), ([], []), qn (qA f n k1), (qc (qA f n k1), fl (qA f n k1), []), (true, 0, [])) = _
                  rw [ern, erc, hfl]
                have t := tr_loop (γ := γ) (l := l) (J := J) (s := s) (r := r) hA hT (134 - nr) nr (k1 + 1) I6 (by omega) (by
                  unfold TrI
                  rw [eq2]
                  refine ⟨x5, ⟨rfl, rfl, rfl, rfl⟩, rfl, ⟨x3, (x2 _ _ (by omega)).trans c12, x4, (x2 _ _ (by omega)).trans c19⟩, hrr, (x2 _ _ (by omega)).trans c14, ⟨b + fx.length, (x2 _ _ (by omega)).trans c32, ?_, ?_, hPc.fr2 (by omega) (by omega) (fun c j y => x2 _ _ (by omega)), ?_⟩, hS6⟩
                  · rw [preC1_len]; omega
                  · rw [preC1_len]; omega
                  · obtain ⟨e, k0, y1, y2, y3, y4, y5, y6, y7⟩ := hYc
                    exact ⟨e, k0, y1, (x2 _ _ (by omega)).trans y2, (x2 _ _ (by omega)).trans y3, (x2 _ _ (by omega)).trans y4, (x2 _ _ (by omega)).trans y5, y6.loc _ _ (fun c j z1 z2 z3 => x2 _ _ (by omega)), trivial⟩)
                rw [eq2] at t
                rw [decide_eq_true z21']
                exact t
      refine w_X9_tellRule_91 hA ⟨fun _ => ?_, fun y => absurd (by rw [h13]; decide) y⟩
      rw [h19, hc2, e8, show (16 : Int32) * nI s + nI r = nI (16 * s + r) by rw [show (16 : Int32) = nI 16 from rfl, pk_mul, nI_add], h11, nI_clamp (by omega), t1]
      have hkd := k4.mpr hz
      have hvv := k4v hz
      refine ⟨hi2, _, j20, fun y => ⟨vp_in_nI (by omega) (by decide), ?_⟩, fun y => ?_⟩
      · rw [nzd0] at y
        rw [if_neg y] at hvv
        rw [show nI kd - 22 + 1 = nI (tokA f n k).2.1 by rw [hvv, show nI kd - 22 = nI (kd - 22) from pk_sub (b := 22) (by omega), nI_1, show kd - 22 + 1 = kd - 21 by omega]]
        exact a149
      · rw [nzd0, Classical.not_not] at y
        rw [if_pos y] at hvv
        have e0 : (0 : Int32) = nI (tokA f n k).2.1 := by rw [hvv]; rfl
        rw [e0]
        exact a149
  refine w_X9_tellRule_0 hA ⟨_, j20, fun z0 => ⟨_, j22, fun z2 => ⟨_, j23, fun z3 => ⟨_, j24, fun z4 => ⟨_, j25, fun z5 => ⟨_, j26, fun z6 => a59 ?_, fun z => a54 ?_⟩, fun z => a54 ?_⟩, fun z => a54 ?_⟩, fun z => a54 ?_⟩, fun z => a54 ?_⟩, fun z => a54 ?_⟩
  · rw [nzd0] at z0 z2 z3 z4 z5 z6
    intro y
    have := k4.mpr y
    omega
  all_goals
    rw [nzd0, Classical.not_not] at z
    exact k4.mp (by omega)
end MTR3
