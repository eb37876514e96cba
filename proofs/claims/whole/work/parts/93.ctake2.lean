/-! ===== the class's reader: what ends an expression ===== -/
theorem rk_B : ∀ s : Fin 18, 15 ≤ s.val → 4 ≤ rkA s.val := by decide +kernel
theorem rk_1 : ∀ s : Fin 18, 9 ≤ s.val → 1 ≤ rkA s.val := by decide +kernel
theorem pwA_mem {rl : List Rl} {o : Bool} {x : Nat} (h : x ∈ pwA rl o) : x = 9 ∨ x = 10 := by
  cases rl with
  | nil => simp [pwA] at h
  | cons u t =>
    have h : x ∈ pwJ (pend false t) o := h
    unfold pwJ at h
    cases o <;> cases pend false t <;> simp at h <;> omega
theorem V_ps.wr {q : Ps} {k : Nat} (h : V_ps q k) (hd : qd q = 0) : ∀ s ∈ Wq q, 9 ≤ s ∧ s ≤ 17 ∧ 1 ≤ rkA s := by
  intro s hs
  have h1 : 9 ≤ s ∧ s ≤ 17 := by
    rw [Wq_eq] at hs
    rcases List.mem_append.mp hs with z | z
    · have o1 := h.2.1.1
      have b1 := okO_cases o1 s z
      rw [hd] at o1
      have b2 : 15 ≤ s := of_decide_eq_true (okO_0 o1 s z)
      omega
    · unfold sufW at z
      rcases List.mem_append.mp z with z | z
      · by_cases h2 : qs q = 2
        · rw [if_pos h2] at z
          have z : s = 11 + qk q := by simpa using z
          have := (h.2.2.1.2.2.2.1 h2).2
          omega
        · rw [if_neg h2] at z; simp at z
      · by_cases h0 : qs q = 0
        · rw [if_pos h0] at z; simp at z
        · rw [if_neg h0] at z
          have := pwA_mem z
          omega
  exact ⟨h1.1, h1.2, rk_1 ⟨s, by omega⟩ h1.1⟩
theorem cls_semi {q : Ps} {k : Nat} (h : V_ps q k) (h1 : qs q ≠ 1) : clsC q ++ (Wq q).map itm = codes (qn q ++ [ruA q]) := by
  rw [codes_snoc]
  by_cases h0 : qs q = 0
  · have er : ruA q = (qc q, fl q, []) := by unfold ruA; rw [if_pos h0]
    rw [er]
    simp [clsC, curC, Wq, h0, cndT, fl]
  · have h2 : qs q = 2 := by have := h.1.2.1; omega
    have er : ruA q = (qc q, qe q, rlA q) := by unfold ruA; rw [if_neg h0]
    have ei : itm (11 + qk q) = (5 + qk q, 0) := by
      have := (h.2.2.1.2.2.2.1 h2).2
      have h4 : qk q = 0 ∨ qk q = 1 ∨ qk q = 2 ∨ qk q = 3 := by omega
      rcases h4 with z | z | z | z <;> rw [z] <;> rfl
    have k1 : cndT (rlA q) = emA (qr q) (qf q) ++ (relJ (qf q, qk q, ql q, fl q) ++ (pwA (qr q) (qf q)).map itm) := cndT_snoc _ _
    rw [er]
    show clsC q ++ (Wq q).map itm = codes (qn q) ++ (qe q ++ cndT (rlA q))
    rw [k1]
    simp [clsC, curC, Wq, h2, relJ, fl, ei]
section CTAKE2
variable {γ : rG} {l : Launch} {sh : Nat × (Nat → Nat) × (Nat → Nat)} {I : Nat → Nat → Int32} {J : Nat → Nat → Int64} {R : Nat → Nat → Option Nat} {a p k s v : Nat} {q : Ps}
theorem take_close (hA : At4 sh R a) (hR : R a 5 = some p) (hP : At3 sh R p) (hap : a + 1 < p) (hV : V_ps q k) (hk : k < 400) (hC : RC q I a p) (hw : qw q = 2) (hd : 0 < qd q) : ∃ I4, rMet γ l m_X4_release [.ref a, .int 1] (sh, I, J, R) (sh, I4, J, R) none ∧ RC (stpP q 7 v) (up (up I4 a 1 (I4 a 1 - 1)) a 4 (up I4 a 1 (I4 a 1 - 1) a 4 - 1)) a p ∧ Sm (Frd a p) I (up (up I4 a 1 (I4 a 1 - 1)) a 4 (up I4 a 1 (I4 a 1 - 1) a 4 - 1)) := by
  have hln := hV.ln
  have hcnt := hV.2.2.2.2
  have o1 := hV.2.1.1
  obtain ⟨t1, t2⟩ := okO_drop o1
  have hsp : (qo q).takeWhile isB ++ (qo q).dropWhile isB = qo q := List.takeWhile_append_dropWhile
  show ∃ I4, _ ∧ RC ((2, qs q, qd q - 1), (((qo q).dropWhile isB).tail, qx q ++ ((qo q).takeWhile isB).map itm), q.2.2) _ a p ∧ _
  generalize hD : (qo q).dropWhile isB = D at t1 t2 hsp ⊢
  cases D with
  | nil => have t1 : qd q = 0 := t1; omega
  | cons y r =>
    have e8 := t2 y rfl
    subst e8
    have hW : Wq q = (qo q).takeWhile isB ++ (8 :: (r ++ sufW (qs q) q.2.2)) := by
      have e : qo q ++ sufW (qs q) q.2.2 = ((qo q).takeWhile isB ++ (8 :: r)) ++ sufW (qs q) q.2.2 := by rw [hsp]
      rw [Wq_eq, e, List.append_assoc]
      rfl
    have hS := hC.1
    rw [hW] at hS
    have hlW : ((qo q).takeWhile isB ++ (8 :: (r ++ sufW (qs q) q.2.2))).length ≤ 23 := by rw [← hW]; exact hln.2
    have hcw : (clsC q).length + ((qo q).takeWhile isB).length ≤ 400 := by
      rw [hW] at hcnt
      simp only [List.length_append] at hcnt
      omega
    obtain ⟨I4, d1, d2, d3⟩ := ct_release (γ := γ) (l := l) (J := J) (least := 1) hA hR hP hap (by decide) (B := 8 :: (r ++ sufW (qs q) q.2.2)) (fun x hx => by
      have hx : 8 = x := by simpa using hx
      subst hx
      exact ⟨by decide, by decide, by decide⟩) ((qo q).takeWhile isB) (clsC q) hS (by omega) hcw (fun x hx => by
      have b1 : 15 ≤ x := of_decide_eq_true (tw_all isB (fun x z => z) (qo q) x hx)
      have b2 := okO_cases o1 x ((List.takeWhile_sublist isB).subset hx)
      have := rk_B ⟨x, by omega⟩ b1
      simp only at this
      omega)
    have ea : I4 a 1 = nI ((r ++ sufW (qs q) q.2.2).length + 1) := d2.1
    refine ⟨I4, d1, ?_, ((d3.mono (fun b j z => Frl_Frd z)).up (Or.inl ⟨rfl, by decide, by decide⟩)).up (Or.inl ⟨rfl, by decide, by decide⟩)⟩
    rw [ea, nI_pred]
    refine RC.ex (q := q) hap hC (by omega) rfl rfl ⟨?_, ?_, ?_, ?_⟩ ?_ ?_ (fun b j z => ?_)
    · rw [up_at, if_neg (by omega), up_at, if_pos ⟨rfl, rfl⟩]; rfl
    · refine (show StkJ I4 (a + 1) ((r ++ sufW (qs q) q.2.2).map nI) from d2.2.1.2).loc _ (fun j _ => ?_)
      rw [up_at, if_neg (by omega), up_at, if_neg (by omega)]
    · rw [up_at, if_neg (by omega), up_at, if_neg (by omega), d2.2.2.1, clsC_eq, List.append_assoc]
    · have := d2.2.2.2
      rw [clsC_eq, List.append_assoc] at this
      refine this.loc _ _ (fun j _ _ => ?_)
      rw [up_at, if_neg (by omega), up_at, if_neg (by omega)]
    · rw [up_at, if_neg (by omega), up_at, if_neg (by omega), d3 _ _ (by unfold Frl; omega), hC.2.1.1, hw]
    · rw [up_at, if_pos ⟨rfl, rfl⟩, up_at, if_neg (by omega), d3 _ _ (by unfold Frl; omega), hC.2.1.2.2]
      show nI (qd q) - 1 = nI (qd q - 1)
      have := nI_pred (qd q - 1)
      rw [show qd q - 1 + 1 = qd q by omega] at this
      exact this
    · rw [up_at, if_neg (by omega), up_at, if_neg (by omega), d3 _ _ (by unfold Frl; omega)]
theorem release_all (hA : At4 sh R a) (hR : R a 5 = some p) (hP : At3 sh R p) (hap : a + 1 < p) (hV : V_ps q k) (hk : k < 400) (hC : RC q I a p) (hd : qd q = 0) : ∃ I4, rMet γ l m_X4_release [.ref a, .int 1] (sh, I, J, R) (sh, I4, J, R) none ∧ RcS I4 a p [] (clsC q ++ (Wq q).map itm) ∧ Sm (Frl a p) I I4 := by
  have hln := hV.ln
  have hcnt := hV.2.2.2.2
  have hS := hC.1
  rw [← List.append_nil (Wq q)] at hS
  obtain ⟨I4, d1, d2, d3⟩ := ct_release (γ := γ) (l := l) (J := J) (least := 1) hA hR hP hap (by decide) (B := []) (fun x hx => by simp at hx) (Wq q) (clsC q) hS (by rw [List.append_nil]; omega) (by omega) (hV.wr hd)
  exact ⟨I4, d1, d2, d3⟩
theorem take_if (hA : At4 sh R a) (hR : R a 5 = some p) (hP : At3 sh R p) (hap : a + 1 < p) (hV : V_ps q k) (hk : k < 400) (hC : RC q I a p) (hw : qw q = 2) (hd : qd q = 0) (h0 : qs q = 0) : ∃ I3 I4, rMet γ l m_X4_release [.ref a, .int 1] (sh, I, J, R) (sh, I3, J, R) none ∧ rMet γ l m_X3_beginCondition [.ref p] (sh, I3, J, R) (sh, I4, J, R) none ∧ RC (stpP q 5 v) (up (up I4 a 3 1) a 2 1) a p ∧ Sm (Frd a p) I (up (up I4 a 3 1) a 2 1) := by
  obtain ⟨I3, d1, d2, d3⟩ := release_all (γ := γ) (l := l) (J := J) hA hR hP hap hV hk hC hd
  have hn := hV.1.2.2.2 (by omega)
  have ecl : clsC q ++ (Wq q).map itm = codes (qn q) ++ fl q := by simp [clsC, curC, Wq, h0, fl]
  rw [ecl] at d2
  have hp0 : I3 p 0 = nI (qn q).length := (d3 _ _ (by unfold Frl; omega)).trans hC.2.2.1
  have cu := hC.2.2.2.2 (by omega)
  obtain ⟨I4, q1, q2, q3⟩ := rW_ex (γ := γ) (l := l) (sh := sh) (J := J) (R := R) (r := none) (F := fun I' => I' (p + 3) (qn q).length = nI ((codes (qn q)).length + (fl q).length) ∧ Sm (fun b j => b = p + 3 ∧ j = (qn q).length) I3 I') (w_X3_beginCondition_0 (I := I3) (J := J) hP (by
    rw [hp0, nI_clamp (by omega)]
    refine ⟨fun z => absurd z (nI_ge hn (by decide)), fun _ => ⟨vp_in_nI hn (by decide), _, rfl, rfl, ?_, Sm.rf.up ⟨rfl, rfl⟩⟩⟩
    rw [up_at, if_pos ⟨rfl, rfl⟩, d2.2.2.1, List.length_append]))
  refine ⟨I3, I4, d1, e_X3_beginCondition q1, ?_, (((d3.mono (fun b j z => Frl_Frd z)).tr (q3.mono (fun b j z => by unfold Frd; omega))).up (Or.inl ⟨rfl, by decide, by decide⟩)).up (Or.inl ⟨rfl, by decide, by decide⟩)⟩
  show RC ((1, 1, 0), ([], []), qn q, (qc q, fl q, []), (true, 0, [])) _ a p
  refine ⟨?_, ⟨by rw [up_at, if_pos ⟨rfl, rfl⟩]; rfl, fun _ => by rw [up_at, if_neg (by omega), up_at, if_pos ⟨rfl, rfl⟩]; rfl, ?_⟩, ?_, ?_, fun _ => ⟨?_, ?_, fun _ => ?_⟩⟩
  · have e1 : clsC ((1, 1, 0), ([], []), qn q, (qc q, fl q, []), (true, 0, [])) = codes (qn q) ++ fl q := by simp [clsC_eq, preC, emA]
    rw [e1]
    exact RcS.fr (I := I3) d2 (fun b j z => by rw [up_at, if_neg (by omega), up_at, if_neg (by omega), q3 _ _ (by omega)])
  · rw [up_at, if_neg (by omega), up_at, if_neg (by omega), q3 _ _ (by omega), d3 _ _ (by unfold Frl; omega), hC.2.1.2.2, hd]
  · rw [up_at, if_neg (by omega), up_at, if_neg (by omega), q3 _ _ (by omega)]; exact hp0
  · exact hC.2.2.2.1.fr (fun b j z1 z2 z3 => by
      have z3 : j < (qn q).length := z3
      rw [up_at, if_neg (by omega), up_at, if_neg (by omega), q3 _ _ (by omega), d3 _ _ (by unfold Frl; omega)])
  · show (up (up I4 a 3 1) a 2 1) (p + 1) (qn q).length = _
    rw [up_at, if_neg (by omega), up_at, if_neg (by omega), q3 _ _ (by omega), d3 _ _ (by unfold Frl; omega)]
    exact cu.1
  · show (up (up I4 a 3 1) a 2 1) (p + 2) (qn q).length = _
    rw [up_at, if_neg (by omega), up_at, if_neg (by omega), q3 _ _ (by omega), d3 _ _ (by unfold Frl; omega)]
    exact cu.2.1
  · show (up (up I4 a 3 1) a 2 1) (p + 3) (qn q).length = _
    rw [up_at, if_neg (by omega), up_at, if_neg (by omega)]
    exact q2
theorem offs_snoc {L : List Rul} {u : Rul} {r : Nat} (h : r ≤ L.length) : offs (L ++ [u]) r = offs L r := by
  unfold offs
  rw [List.take_append_of_le_length h]
theorem offs_len {L : List Rul} : offs L L.length = (codes L).length := by
  unfold offs
  rw [List.take_length]
theorem take_semi (hA : At4 sh R a) (hR : R a 5 = some p) (hP : At3 sh R p) (hap : a + 1 < p) (hV : V_ps q k) (hk : k < 400) (hC : RC q I a p) (hw : qw q = 2) (hd : qd q = 0) (h1 : qs q ≠ 1) : ∃ I3 I4, rMet γ l m_X4_release [.ref a, .int 1] (sh, I, J, R) (sh, I3, J, R) none ∧ I3 a 3 = nI (qs q) ∧ rMet γ l m_X3_end [.ref p, .int (if qs q = 0 then 0 else 1)] (sh, I3, J, R) (sh, I4, J, R) none ∧ RC (stpP q 6 v) (up I4 a 2 0) a p ∧ Sm (Frd a p) I (up I4 a 2 0) := by
  obtain ⟨I3, d1, d2, d3⟩ := release_all (γ := γ) (l := l) (J := J) hA hR hP hap hV hk hC hd
  have hn := hV.1.2.2.2 (by omega)
  rw [cls_semi hV h1] at d2
  have hp0 : I3 p 0 = nI (qn q).length := (d3 _ _ (by unfold Frl; omega)).trans hC.2.2.1
  have cu := hC.2.2.2.2 (by omega)
  have ecu : CuC I3 p (qs q) q.2.2 := cu.fr (fun b j z1 z2 => d3 _ _ (by unfold Frl; omega))
  have esz : (codes (qn q ++ [ruA q])).length = (codes (qn q)).length + (ruA q).2.1.length + (cndT (ruA q).2.2).length := by
    rw [codes_snoc]; simp only [List.length_append]; omega
  have t26 : ∀ I5 : Nat → Nat → Int32, I5 (p + 3) (qn q).length = nI ((codes (qn q)).length + (ruA q).2.1.length) → Sm (fun b j => b = p + 3 ∧ j = (qn q).length) I3 I5 → s_X3_end_26 γ l p (sh, I5, J, R) (fun hf v => ∃ I', hf = (sh, I', J, R) ∧ v = none ∧ (I' (p + 3) (qn q).length = nI ((codes (qn q)).length + (ruA q).2.1.length) ∧ I' (p + 4) (qn q).length = nI (codes (qn q ++ [ruA q])).length ∧ I' p 0 = nI ((qn q).length + 1) ∧ Sm (fun b j => ((b = p + 3 ∨ b = p + 4) ∧ j = (qn q).length) ∨ (b = p ∧ j = 0)) I3 I')) := by
    intro I5 g1 g2
    have e0 : I5 p 0 = nI (qn q).length := (g2 _ _ (by omega)).trans hp0
    have e1 : I5 p 1 = nI (codes (qn q ++ [ruA q])).length := (g2 _ _ (by omega)).trans d2.2.2.1
    refine w_X3_end_26 hP ?_
    rw [e0, nI_clamp (by omega), e1]
    have e2 : up I5 (p + 4) (qn q).length (nI (codes (qn q ++ [ruA q])).length) p 0 = nI (qn q).length := by rw [up_at, if_neg (by omega)]; exact e0
    rw [e2, nI_1]
    refine ⟨vp_in_nI hn (by decide), _, rfl, rfl, ?_, ?_, ?_, ((g2.mono (fun b j z => by omega)).up (Or.inl ⟨Or.inr rfl, rfl⟩)).up (Or.inr ⟨rfl, rfl⟩)⟩
    · rw [up_at, if_neg (by omega), up_at, if_neg (by omega)]; exact g1
    · rw [up_at, if_neg (by omega), up_at, if_pos ⟨rfl, rfl⟩]
    · rw [up_at, if_pos ⟨rfl, rfl⟩]
  obtain ⟨I4, q1, q2, q3, q4, q5⟩ := rW_ex (γ := γ) (l := l) (sh := sh) (J := J) (R := R) (r := none) (F := fun I' => I' (p + 3) (qn q).length = nI ((codes (qn q)).length + (ruA q).2.1.length) ∧ I' (p + 4) (qn q).length = nI (codes (qn q ++ [ruA q])).length ∧ I' p 0 = nI ((qn q).length + 1) ∧ Sm (fun b j => ((b = p + 3 ∨ b = p + 4) ∧ j = (qn q).length) ∨ (b = p ∧ j = 0)) I3 I') (w_X3_end_0 (I := I3) (J := J) (x1 := if qs q = 0 then 0 else 1) hP (by
    rw [hp0, nI_clamp (by omega)]
    refine ⟨fun z => absurd z (nI_ge hn (by decide)), fun _ => ⟨fun z => ⟨vp_in_nI hn (by decide), ?_⟩, fun z => ?_⟩⟩
    · have h0 : qs q = 0 := by
        by_cases h0 : qs q = 0
        · exact h0
        · rw [if_neg h0] at z; exact absurd z (by decide)
      refine t26 _ ?_ (Sm.rf.up ⟨rfl, rfl⟩)
      have er : ruA q = (qc q, fl q, []) := by unfold ruA; rw [if_pos h0]
      rw [up_at, if_pos ⟨rfl, rfl⟩, d2.2.2.1, esz, er]
      rfl
    · have h0 : qs q ≠ 0 := fun h0 => z (by rw [if_pos h0])
      refine t26 I3 ?_ Sm.rf
      have er : ruA q = (qc q, qe q, rlA q) := by unfold ruA; rw [if_neg h0]
      rw [er]
      exact ecu.2.2 h0))
  refine ⟨I3, I4, d1, (d3 _ _ (by unfold Frl; omega)).trans (hC.2.1.2.1 (by omega)), e_X3_end q1, ?_, ((d3.mono (fun b j z => Frl_Frd z)).tr (q5.mono (fun b j z => by unfold Frd; omega))).up (Or.inl ⟨rfl, by decide, by decide⟩)⟩
  show RC ((0, 0, 0), ([], []), qn q ++ [ruA q], (0, [], []), (true, 0, [])) _ a p
  refine ⟨?_, ⟨by rw [up_at, if_pos ⟨rfl, rfl⟩]; rfl, fun z => absurd rfl z, ?_⟩, ?_, ?_, fun z => absurd rfl z⟩
  · have e1 : clsC ((0, 0, 0), ([], []), qn q ++ [ruA q], (0, [], []), (true, 0, [])) = codes (qn q ++ [ruA q]) := by simp [clsC_eq, preC]
    rw [e1]
    exact RcS.fr (I := I3) d2 (fun b j z => by rw [up_at, if_neg (by omega), q5 _ _ (by omega)])
  · rw [up_at, if_neg (by omega), q5 _ _ (by omega), d3 _ _ (by unfold Frl; omega), hC.2.1.2.2, hd]
  · rw [up_at, if_neg (by omega), q4]; simp [qn]
  · show TbC _ p (qn q ++ [ruA q])
    intro r hr
    rcases getR_snoc hr with ⟨g1, g2⟩ | ⟨g1, g2⟩
    · rw [g2, offs_snoc (by omega)]
      obtain ⟨x1, x2, x3, x4⟩ := hC.2.2.2.1 r g1
      have fr : ∀ b, p + 1 ≤ b → b ≤ p + 4 → (up I4 a 2 0) b r = I b r := fun b z1 z2 => by rw [up_at, if_neg (by omega), q5 _ _ (by omega), d3 _ _ (by unfold Frl; omega)]
      exact ⟨(fr _ (by omega) (by omega)).trans x1, (fr _ (by omega) (by omega)).trans x2, (fr _ (by omega) (by omega)).trans x3, (fr _ (by omega) (by omega)).trans x4⟩
    · rw [g2, offs_snoc (by omega), g1, offs_len]
      have e1 : (ruA q).1 = qc q := by unfold ruA; split <;> rfl
      refine ⟨?_, ?_, ?_, ?_⟩
      · rw [up_at, if_neg (by omega), q5 _ _ (by omega), e1]; exact ecu.1
      · rw [up_at, if_neg (by omega), q5 _ _ (by omega)]; exact ecu.2.1
      · rw [up_at, if_neg (by omega)]; exact q2
      · rw [up_at, if_neg (by omega), ← esz]; exact q3
end CTAKE2
