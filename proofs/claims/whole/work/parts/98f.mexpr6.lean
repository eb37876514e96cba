/-! ===== the model's expression: behind a unit, the step ===== -/
section MEX6
variable {γ : rG} {l : Launch} {sh : Nat × (Nat → Nat) × (Nat → Nat)} {I : Nat → Nat → Int32} {J : Nat → Nat → Int64} {R : Nat → Nat → Option Nat} {m n k base lim : Nat} {f : Nat → Int32} {q0 : Ps}
theorem go_op {q : Ps} {s : Nat} (hw : qw q = 2) (h : 15 ≤ s) : goB q s = true := by
  unfold goB
  rw [if_neg (by omega), if_neg (by omega), if_pos h]
theorem go_cl {q : Ps} (hw : qw q = 2) (h : 0 < qd q) : goB q 7 = true := by
  unfold goB
  rw [if_neg (by omega), if_neg (by omega), if_neg (by decide), if_pos h]
  rfl
/-- an operator -/
theorem ex_op {I1 : Nat → Nat → Int32} (hA : At9 sh R m) (hT : TkT I m f n) (hk : k ≤ stopK f n) (hb : base + 401 ≤ lim + (preC (qs q0) q0.2.2).length ∧ lim ≤ 1000) (H12 : ∀ I2, k + 1 ≤ stopK f n → ExI I I2 m f n base lim q0 1 (k + 1) → s_X9_expression_12 γ l m 0 1 (sh, I2, J, R) (ExQ sh I J R m f n base lim q0)) (h : ExI I I1 m f n base lim q0 2 k) (h15 : 15 ≤ (tokA f n k).1) : s_X9_expression_281 γ l m 0 1 (sh, I1, J, R) (ExQ sh I J R m f n base lim q0) := by
  obtain ⟨hw, ⟨e1, e2⟩, hM, ⟨h12, h13, h11⟩, hS⟩ := id h
  have hV := qA_V k hk
  have hln := hV.ln
  have o1 := hV.2.1.1
  have hcs := okO_cases o1
  have hbb := h.b hk hb
  have hT1 := h.t hT
  have hK := (stop_at (f := f) (n := n)).1
  obtain ⟨kd, t1, t2, t3, t4⟩ := hT1 k hk
  have hok : TkOk (tokA f n k).1 (tokA f n k).2.1 := tkA_ok
  obtain ⟨k40, _, _, _, _, _, k8, k9, k10, _⟩ := KR_f t2 hok
  have h17 := hok.1
  have ekd : nI kd = nI (kOf (tokA f n k).1 0) := by
    have hs : (tokA f n k).1 = 15 ∨ (tokA f n k).1 = 16 ∨ (tokA f n k).1 = 17 := by omega
    rcases hs with z | z | z
    · rw [z, k8.mpr z]; rfl
    · rw [z, k9.mpr z]; rfl
    · rw [z, k10.mpr z]; rfl
  have hg := go_op hw h15
  have main : ∀ tm : Bool, tm = decide ((tokA f n k).1 = 17) → s_X9_expression_329 γ l m 0 1 (nI kd) (nz tm) m (sh, I1, J, R) (ExQ sh I J R m f n base lim q0) := by
    intro tm htm
    obtain ⟨I2, d1, d2, d3⟩ := ct_comesOut (γ := γ) (l := l) (J := J) (lim := lim) tm hA _ _ hcs hM (by omega) (by omega)
    have hdl : ((qo (qA f n k)).dropWhile (fun x => if tm then isT x else isB x)).length ≤ 20 := by
      have := tw_len (fun x => if tm then isT x else isB x) (qo (qA f n k))
      omega
    have hp := d2.push (s := (tokA f n k).1) (by omega)
    have e36 : I2 m 36 = nI ((qo (qA f n k)).dropWhile (fun x => if tm then isT x else isB x)).length := d2.1
    generalize hD : (qo (qA f n k)).dropWhile (fun x => if tm then isT x else isB x) = D at d2 hdl hp e36
    have ev : up I2 (m + 22) D.length (nI kd) m 36 = nI D.length := by rw [up_at, if_neg (by omega)]; exact e36
    refine w_X9_expression_329 hA hA ⟨I2, d1, by rw [e36]; exact vp_in_nI (by omega) (by decide), ?_⟩
    rw [e36, nI_clamp (by omega), ev, nI_1, ekd]
    generalize hI3 : up (up I2 (m + 22) D.length (nI (kOf (tokA f n k).1 0))) m 36 (nI (D.length + 1)) = I3 at hp
    have fr3 : ∀ b j, ¬ (b = m + 22 ∨ (b = m ∧ (j = 36 ∨ j = 32)) ∨ b = m + 20 ∨ b = m + 21) → I3 b j = I1 b j := by
      intro b j z
      rw [← hI3, up_at, if_neg (by omega), up_at, if_neg (by omega), d3 _ _ (by unfold Fcm; omega)]
    have hS3 : Sm (Fex m base lim) I I3 := by
      rw [← hI3]
      exact ((hS.tr (d3.mono (fun b j z => Fcm_Fex z))).up (Or.inr (Or.inr rfl))).up (Or.inl ⟨rfl, by omega⟩)
    obtain ⟨I4, n1, n2, n3⟩ := ct_nextK (γ := γ) (l := l) (J := J) (k := k) hA (hT1.fr (fun b j z => fr3 _ _ (by omega))) ((fr3 _ _ (by omega)).trans h13) ((fr3 _ _ (by omega)).trans h11) hk (by omega) hg (fun z => by omega) (fun z => by omega)
    have hS4 : Sm (Fex m base lim) I I4 := hS3.tr (n2.mono (fun b j z => by unfold Fex; omega))
    refine ⟨I4, n1, ?_⟩
    rcases n3 with ⟨n3, _⟩ | ⟨n3, n4, n5, n6⟩
    · exact ex_flt12 hA n3 hS4 _ _
    · refine H12 I4 n5 ?_
      have hp4 := hp.fr (I2 := I4) (fun b j z => n2 _ _ (by omega))
      have eq1 : qA f n (k + 1) = ((1, qs (qA f n k), qd (qA f n k)), ((tokA f n k).1 :: D, qx (qA f n k) ++ ((qo (qA f n k)).takeWhile (fun x => if tm then isT x else isB x)).map itm), (qA f n k).2.2) := by
        show stpP (qA f n k) (tokA f n k).1 (tokA f n k).2.1 = _
        by_cases z : (tokA f n k).1 = 17
        · rw [decide_eq_true z] at htm
          subst htm
          rw [z, ← hD]
          rfl
        · rw [decide_eq_false z] at htm
          subst htm
          rw [stp15 (by omega), ← hD]
          rfl
      unfold ExI
      rw [eq1]
      exact ⟨rfl, ⟨e1, e2⟩, hp4, ⟨(n2 _ _ (by omega)).trans ((fr3 _ _ (by omega)).trans h12), n3, n4⟩, hS4⟩
  refine w_X9_expression_281 hA ⟨fun z => absurd z (by decide), fun _ => ?_⟩
  rw [h11, nI_clamp (by omega), t1]
  refine ⟨vp_in_nI (by omega) (by decide), fun z => ?_, fun z => ?_⟩
  · have z : kd = 10 := (nI_eq (b := 10) (by omega) (by decide)).mp z
    exact main true (decide_eq_true (k10.mp z)).symm
  · exact main false (decide_eq_false (fun y => z (by rw [k10.mpr y]; rfl))).symm
end MEX6
