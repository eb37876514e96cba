/-! ===== the model's expression: behind a unit, a parenthesis; a unit; the loop ===== -/
theorem nzd0 {p : Prop} {dp : Decidable p} : nz (decide p) = 0 ↔ ¬ p := by rw [nz_0, decide_eq_false_iff_not]
section MEX7
variable {γ : rG} {l : Launch} {sh : Nat × (Nat → Nat) × (Nat → Nat)} {I : Nat → Nat → Int32} {J : Nat → Nat → Int64} {R : Nat → Nat → Option Nat} {m n k base lim : Nat} {f : Nat → Int32} {q0 : Ps}
theorem ex_249 {I1 : Nat → Nat → Int32} (hA : At9 sh R m) (hT : TkT I m f n) (hk : k ≤ stopK f n) (hb : base + 401 ≤ lim + (preC (qs q0) q0.2.2).length ∧ lim ≤ 1000) (H12 : ∀ I2, k + 1 ≤ stopK f n → ExI I I2 m f n base lim q0 1 (k + 1) → s_X9_expression_12 γ l m 0 1 (sh, I2, J, R) (ExQ sh I J R m f n base lim q0)) (h : ExI I I1 m f n base lim q0 2 k) (h7 : (tokA f n k).1 = 7 → qd (qA f n k) = 0) : s_X9_expression_249 γ l m 0 (sh, I1, J, R) (ExQ sh I J R m f n base lim q0) := by
  obtain ⟨hw, ⟨e1, e2⟩, hM, ⟨h12, h13, h11⟩, hS⟩ := id h
  have hT1 := h.t hT
  have hK := (stop_at (f := f) (n := n)).1
  have hbb := h.b hk hb
  obtain ⟨kd, t1, t2, t3, t4⟩ := hT1 k hk
  have hok : TkOk (tokA f n k).1 (tokA f n k).2.1 := tkA_ok
  obtain ⟨k40, _, _, _, _, _, k8, k9, k10, _⟩ := KR_f t2 hok
  have h17 := hok.1
  have j8 := ct_is0 (γ := γ) (l := l) (J := J) (c := 8) hA h13 h11 (by omega) t1 (by omega) (by decide)
  have j9 := ct_is0 (γ := γ) (l := l) (J := J) (c := 9) hA h13 h11 (by omega) t1 (by omega) (by decide)
  have j10 := ct_is0 (γ := γ) (l := l) (J := J) (c := 10) hA h13 h11 (by omega) t1 (by omega) (by decide)
  have op : 15 ≤ (tokA f n k).1 → s_X9_expression_276 γ l m 0 (sh, I1, J, R) (ExQ sh I J R m f n base lim q0) := fun z => w_X9_expression_276 hA (ex_op hA hT hk hb H12 h z)
  refine w_X9_expression_249 hA ⟨_, j8, fun z8 => ⟨_, j9, fun z9 => ⟨_, j10, fun z10 => ?_, fun z10 => ?_⟩, fun z9 => ?_⟩, fun z8 => ?_⟩
  · rw [nzd0] at z8 z9 z10
    exact ex_end hA hT1 hk (qA_V k hk) hw e1 e2 hM h12 h13 h11 (by omega) (by omega) h7 hS
  · rw [nzd0, Classical.not_not] at z10
    exact op (by omega)
  · rw [nzd0, Classical.not_not] at z9
    exact op (by omega)
  · rw [nzd0, Classical.not_not] at z8
    exact op (by omega)
theorem ex_200 {I1 : Nat → Nat → Int32} (hA : At9 sh R m) (hT : TkT I m f n) (hk : k ≤ stopK f n) (hb : base + 401 ≤ lim + (preC (qs q0) q0.2.2).length ∧ lim ≤ 1000) (H12 : ∀ I2, k + 1 ≤ stopK f n → ExI I I2 m f n base lim q0 1 (k + 1) → s_X9_expression_12 γ l m 0 1 (sh, I2, J, R) (ExQ sh I J R m f n base lim q0)) (H200 : ∀ I2, k + 1 ≤ stopK f n → ExI I I2 m f n base lim q0 2 (k + 1) → s_X9_expression_200 γ l m 0 (sh, I2, J, R) (ExQ sh I J R m f n base lim q0)) (h : ExI I I1 m f n base lim q0 2 k) : s_X9_expression_200 γ l m 0 (sh, I1, J, R) (ExQ sh I J R m f n base lim q0) := by
  obtain ⟨hw, ⟨e1, e2⟩, hM, ⟨h12, h13, h11⟩, hS⟩ := id h
  have hT1 := h.t hT
  have hK := (stop_at (f := f) (n := n)).1
  have hbb := h.b hk hb
  have hV := qA_V k hk
  have hln := hV.ln
  have o1 := hV.2.1.1
  have hd6 := hV.2.1.2.1
  have hcs := okO_cases o1
  obtain ⟨kd, t1, t2, t3, t4⟩ := hT1 k hk
  have hok : TkOk (tokA f n k).1 (tokA f n k).2.1 := tkA_ok
  obtain ⟨k40, _, _, _, _, k7, _⟩ := KR_f t2 hok
  have j7 := ct_is0 (γ := γ) (l := l) (J := J) (c := 7) hA h13 h11 (by omega) t1 (by omega) (by decide)
  refine w_X9_expression_200 hA ⟨_, j7, fun z7 => ?_, fun z7 => ⟨fun z => ?_, fun z => ?_⟩⟩
  · rw [nzd0] at z7
    exact ex_249 hA hT hk hb H12 h (fun y => absurd (k7.mpr y) z7)
  · rw [h12, show (0 : Int32) = nI 0 from rfl, nI_leI (by omega) (by decide)] at z
    exact ex_249 hA hT hk hb H12 h (fun _ => by omega)
  · rw [nzd0, Classical.not_not] at z7
    have hs7 := k7.mp z7
    rw [h12, show (0 : Int32) = nI 0 from rfl, nI_leI (by omega) (by decide)] at z
    have hd : 0 < qd (qA f n k) := by omega
    obtain ⟨I2, d1, d2, d3⟩ := ct_comesOut (γ := γ) (l := l) (J := J) (lim := lim) false hA _ _ hcs hM (by omega) (by omega)
    have d2' : MxS I2 m base ((qo (qA f n k)).dropWhile isB) (qx (qA f n k) ++ ((qo (qA f n k)).takeWhile isB).map itm) := d2
    have tl := tw_len isB (qo (qA f n k))
    obtain ⟨w1, w2⟩ := okO_drop o1
    have eq1 : qA f n (k + 1) = ((2, qs (qA f n k), qd (qA f n k) - 1), (((qo (qA f n k)).dropWhile isB).tail, qx (qA f n k) ++ ((qo (qA f n k)).takeWhile isB).map itm), (qA f n k).2.2) := by
      show stpP (qA f n k) (tokA f n k).1 (tokA f n k).2.1 = _
      rw [hs7]
      rfl
    have hxl : (qx (qA f n k) ++ ((qo (qA f n k)).takeWhile isB).map itm).length = (qx (qA f n k)).length + ((qo (qA f n k)).takeWhile isB).length := by simp
    generalize hDd : (qo (qA f n k)).dropWhile isB = Dd at d2' w1 w2 eq1 tl
    generalize hXx : qx (qA f n k) ++ ((qo (qA f n k)).takeWhile isB).map itm = Xx at d2' eq1 hxl
    cases Dd with
    | nil => exact absurd w1 (by show ¬ qd (qA f n k) = 0; omega)
    | cons y Dr =>
      have hy : y = 8 := w2 y rfl
      simp only [List.length_cons] at tl
      have e36 : I2 m 36 = nI (Dr.length + 1) := d2'.1
      have e12 : I2 m 12 = nI (qd (qA f n k)) := (d3 _ _ (by unfold Fcm; omega)).trans h12
      have e12' : up I2 m 36 (nI Dr.length) m 12 - 1 = nI (qd (qA f n k) - 1) := by
        rw [up_at, if_neg (by omega), e12, show qd (qA f n k) = qd (qA f n k) - 1 + 1 by omega, nI_pred]
        rfl
      generalize hI3 : up (up I2 m 36 (nI Dr.length)) m 12 (nI (qd (qA f n k) - 1)) = I3
      have fr3 : ∀ b j, ¬ (b = m ∧ (j = 36 ∨ j = 12)) → I3 b j = I2 b j := by
        intro b j y
        rw [← hI3, up_at, if_neg (by omega), up_at, if_neg (by omega)]
      have hp : MxS I3 m base Dr Xx := by
        refine ⟨?_, (show StkJ I2 (m + 22) (Dr.map (fun s => nI (kOf s 0))) from d2'.2.1.2).loc _ (fun j _ => fr3 _ _ (by omega)), (fr3 _ _ (by omega)).trans d2'.2.2.1, d2'.2.2.2.loc _ _ (fun b j y _ _ => fr3 _ _ (by omega))⟩
        rw [← hI3, up_at, if_neg (by omega), up_at, if_pos ⟨rfl, rfl⟩]
      have fr1 : ∀ b j, ¬ ((b = m ∧ (j = 36 ∨ j = 12)) ∨ Fcm m base lim b j) → I3 b j = I1 b j := fun b j y => (fr3 b j (fun z => y (Or.inl z))).trans (d3 _ _ (fun z => y (Or.inr z)))
      have hS3 : Sm (Fex m base lim) I I3 := hS.tr (fun b j y => fr1 b j (fun z => y (by unfold Fcm at z; unfold Fex; omega)))
      obtain ⟨I4, n1, n2, n3⟩ := ct_nextK (γ := γ) (l := l) (J := J) (k := k) hA (hT1.fr (fun b j z => fr1 _ _ (by unfold Fcm; omega))) ((fr1 _ _ (by unfold Fcm; omega)).trans h13) ((fr1 _ _ (by unfold Fcm; omega)).trans h11) hk (by omega) (by rw [hs7]; exact go_cl hw hd) (fun z => by omega) (fun z => by omega)
      have hS4 : Sm (Fex m base lim) I I4 := hS3.tr (n2.mono (fun b j z => by unfold Fex; omega))
      have hp4 := hp.fr (I2 := I4) (fun b j z => n2 _ _ (by omega))
      refine ⟨I2, d1, ?_⟩
      rw [e36, nI_pred, e12', hI3]
      refine ⟨I4, n1, ?_⟩
      rcases n3 with ⟨n3, _⟩ | ⟨n3, n4, n5, n6⟩
      · exact ex_flt2 hA n3 (fun x hx => hcs x (by
          have : x ∈ (qo (qA f n k)).dropWhile isB := by rw [hDd]; exact List.mem_cons_of_mem _ hx
          exact (List.dropWhile_suffix isB).subset this)) hp4 (by omega) (by omega) hS4 _
      · refine H200 I4 n5 ?_
        unfold ExI
        rw [eq1]
        refine ⟨rfl, ⟨e1, e2⟩, hp4, ⟨?_, n3, n4⟩, hS4⟩
        rw [n2 _ _ (by omega), ← hI3]
        show up (up I2 m 36 (nI Dr.length)) m 12 (nI (qd (qA f n k) - 1)) m 12 = _
        rw [up_at, if_pos ⟨rfl, rfl⟩]
end MEX7
