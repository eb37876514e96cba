/-! ===== the model's rules of one side, with bounds ===== -/
def RelX (I : Nat → Nat → Int32) (m s b k : Nat) (r : Rl) : Prop := ∃ e, (500 * s ≤ e ∧ e + r.2.2.1.length + r.2.2.2.length ≤ b) ∧ I (m + 15) (200 * s + k) = nI r.2.1 ∧ I (m + 16) (200 * s + k) = nI e ∧ I (m + 17) (200 * s + k) = nI (e + r.2.2.1.length) ∧ I (m + 18) (200 * s + k) = nI (e + r.2.2.1.length + r.2.2.2.length) ∧ I (m + 19) (200 * s + k) = nz r.1 ∧ SegM I m e r.2.2.1 ∧ SegM I m (e + r.2.2.1.length) r.2.2.2
def RelsX (I : Nat → Nat → Int32) (m s b : Nat) : Nat → List Rl → Prop
  | _, [] => True
  | k, r :: t => RelX I m s b k r ∧ RelsX I m s b (k + 1) t
theorem RelX.fr {I I' : Nat → Nat → Int32} {m s b b' k : Nat} {r : Rl} (h : RelX I m s b k r) (hb : b ≤ b') (hq : ∀ c j, (m + 15 ≤ c ∧ c ≤ m + 19 ∧ j = 200 * s + k) ∨ ((c = m + 20 ∨ c = m + 21) ∧ 500 * s ≤ j ∧ j < b) → I' c j = I c j) : RelX I' m s b' k r := by
  obtain ⟨e, q1, q2, q3, q4, q5, q6, q7, q8⟩ := h
  exact ⟨e, ⟨q1.1, by omega⟩, (hq _ _ (by omega)).trans q2, (hq _ _ (by omega)).trans q3, (hq _ _ (by omega)).trans q4, (hq _ _ (by omega)).trans q5, (hq _ _ (by omega)).trans q6, q7.loc _ _ (fun c j h _ _ => hq c j (by omega)), q8.loc _ _ (fun c j h _ _ => hq c j (by omega))⟩
theorem RelsX.fr {I I' : Nat → Nat → Int32} {m s b b' nr : Nat} (hb : b ≤ b') (hq : ∀ c j, (m + 15 ≤ c ∧ c ≤ m + 19 ∧ 200 * s ≤ j ∧ j < 200 * s + nr) ∨ ((c = m + 20 ∨ c = m + 21) ∧ 500 * s ≤ j ∧ j < b) → I' c j = I c j) : ∀ (t : List Rl) (k : Nat), k + t.length ≤ nr → RelsX I m s b k t → RelsX I' m s b' k t := by
  intro t
  induction t with
  | nil => intro k _ _; trivial
  | cons r t ih =>
    intro k hk h
    simp only [List.length_cons] at hk
    exact ⟨h.1.fr hb (fun c j z => hq c j (by omega)), ih (k + 1) (by omega) h.2⟩
theorem RelX.M {I : Nat → Nat → Int32} {m s b k : Nat} {r : Rl} (hb : b ≤ 1000) (h : RelX I m s b k r) : RelM I m s k r := by
  obtain ⟨e, q1, q2⟩ := h
  exact ⟨e, by omega, q2⟩
theorem RelsX.M {I : Nat → Nat → Int32} {m s b : Nat} (hb : b ≤ 1000) : ∀ (t : List Rl) (k : Nat), RelsX I m s b k t → RelsM I m s k t := by
  intro t
  induction t with
  | nil => intro k _; trivial
  | cons r t ih => intro k h; exact ⟨h.1.M hb, ih (k + 1) h.2⟩
theorem RelsX_snoc {I : Nat → Nat → Int32} {m s b : Nat} {r : Rl} : ∀ (t : List Rl) (k : Nat), RelsX I m s b k t → RelX I m s b (k + t.length) r → RelsX I m s b k (t ++ [r]) := by
  intro t
  induction t with
  | nil => intro k _ h; exact ⟨h, trivial⟩
  | cons u t ih =>
    intro k h h2
    have e : k + (u :: t).length = k + 1 + t.length := by simp only [List.length_cons]; omega
    rw [e] at h2
    exact ⟨h.1, ih (k + 1) h.2 h2⟩
def RuX (I : Nat → Nat → Int32) (m s b nr r : Nat) (u : Rul) : Prop := ∃ e k, (500 * s ≤ e ∧ e + u.2.1.length ≤ b ∧ k + u.2.2.length ≤ nr) ∧ I (m + 9) (16 * s + r) = nI u.1 ∧ I (m + 10) (16 * s + r) = nI e ∧ I (m + 11) (16 * s + r) = nI (e + u.2.1.length) ∧ I (m + 12) (16 * s + r) = nI k ∧ I (m + 13) (16 * s + r) = nI (k + u.2.2.length) ∧ SegM I m e u.2.1 ∧ RelsX I m s b k u.2.2
theorem RuX.fr {I I' : Nat → Nat → Int32} {m s b b' nr nr' r : Nat} {u : Rul} (h : RuX I m s b nr r u) (hb : b ≤ b') (hn : nr ≤ nr') (hq : ∀ c j, (m + 9 ≤ c ∧ c ≤ m + 13 ∧ j = 16 * s + r) ∨ (m + 15 ≤ c ∧ c ≤ m + 19 ∧ 200 * s ≤ j ∧ j < 200 * s + nr) ∨ ((c = m + 20 ∨ c = m + 21) ∧ 500 * s ≤ j ∧ j < b) → I' c j = I c j) : RuX I' m s b' nr' r u := by
  obtain ⟨e, k, q1, q2, q3, q4, q5, q6, q7, q8⟩ := h
  exact ⟨e, k, by omega, (hq _ _ (by omega)).trans q2, (hq _ _ (by omega)).trans q3, (hq _ _ (by omega)).trans q4, (hq _ _ (by omega)).trans q5, (hq _ _ (by omega)).trans q6, q7.loc _ _ (fun c j h _ _ => hq c j (by omega)), RelsX.fr hb (fun c j z => hq c j (by omega)) _ _ q1.2.2 q8⟩
def PrX (I : Nat → Nat → Int32) (m s b nr : Nat) (Rs : List Rul) : Prop := (s < 2 ∧ b ≤ 500 * s + 401 ∧ nr ≤ 200 ∧ Rs.length ≤ 16) ∧ I (m + 8) s = nI Rs.length ∧ ∀ r, r < Rs.length → RuX I m s b nr r (gR Rs r)
theorem PrX.M {I : Nat → Nat → Int32} {m s b nr : Nat} {Rs : List Rul} (h : PrX I m s b nr Rs) : PrM I m s Rs := by
  obtain ⟨⟨h1, h2, h3, h4⟩, h5, h6⟩ := h
  refine ⟨h1, h5, fun r hr => ?_⟩
  obtain ⟨e, k, q1, q2, q3, q4, q5, q6, q7, q8⟩ := h6 r hr
  exact ⟨e, k, by omega, q2, q3, q4, q5, q6, q7, RelsX.M (by omega) _ _ q8⟩
/-- one side is left alone by what is written on the other -/
theorem PrX.fr {I I' : Nat → Nat → Int32} {m s b nr : Nat} {Rs : List Rul} (h : PrX I m s b nr Rs) (hq : ∀ c j, (c = m + 8 ∧ j = s) ∨ (m + 9 ≤ c ∧ c ≤ m + 13 ∧ 16 * s ≤ j ∧ j < 16 * s + 16) ∨ (m + 15 ≤ c ∧ c ≤ m + 19 ∧ 200 * s ≤ j ∧ j < 200 * s + 200) ∨ ((c = m + 20 ∨ c = m + 21) ∧ 500 * s ≤ j ∧ j < 500 * s + 401) → I' c j = I c j) : PrX I' m s b nr Rs := by
  obtain ⟨⟨h1, h2, h3, h4⟩, h5, h6⟩ := h
  exact ⟨⟨h1, h2, h3, h4⟩, (hq _ _ (Or.inl ⟨rfl, rfl⟩)).trans h5, fun r hr => (h6 r hr).fr (Nat.le_refl _) (Nat.le_refl _) (fun c j z => hq c j (by omega))⟩
/-! ===== the model's relation ===== -/
def Frx (m s base nr : Nat) : Nat → Nat → Prop := fun b j => Fex m base (500 * s + 401) b j ∨ (b = m + 14 ∧ j = s) ∨ (m + 15 ≤ b ∧ b ≤ m + 19 ∧ j = 200 * s + nr)
def RlP (I' : Nat → Nat → Int32) (m : Nat) (f : Nat → Int32) (n s base nr : Nat) (q0 : Ps) : Prop := FltM I' m f n ∨ ∃ k kk lf, k ≤ stopK f n ∧ (I' m 13 = 0 ∧ I' m 11 = nI k ∧ I' m 12 = 0) ∧ (qw (qA f n k) = 2 ∧ qs (qA f n k) = 2 ∧ qd (qA f n k) = 0 ∧ (qA f n k).2.2 = (qn q0, (qc q0, qe q0, qr q0), (qf q0, kk, lf))) ∧ (tokA f n k).1 < 15 ∧ I' m 32 = nI (base + lf.length + (fl (qA f n k)).length) ∧ RelX I' m s (base + lf.length + (fl (qA f n k)).length) nr (qf q0, kk, lf, fl (qA f n k)) ∧ I' (m + 14) s = nI (nr + 1)
section MRL
variable {γ : rG} {l : Launch} {sh : Nat × (Nat → Nat) × (Nat → Nat)} {I : Nat → Nat → Int32} {J : Nat → Nat → Int64} {R : Nat → Nat → Option Nat} {m n k base s nr : Nat} {f : Nat → Int32}
theorem ct_relation (hA : At9 sh R m) (hT : TkT I m f n) (hk : k ≤ stopK f n) (hq : qw (qA f n k) = 1 ∧ qo (qA f n k) = [] ∧ qx (qA f n k) = [] ∧ qd (qA f n k) = 0) (hs1 : qs (qA f n k) = 1) (h12 : I m 12 = 0) (h13 : I m 13 = 0) (h11 : I m 11 = nI k) (h32 : I m 32 = nI base) (hb : 500 * s ≤ base ∧ base ≤ 500 * s + (preC 1 (qA f n k).2.2).length) (hs : s < 2) (h19 : I m 19 = nI s) (h14 : I (m + 14) s = nI nr) (hnr : nr < 200) : ∃ I', rMet γ l m_X9_relation [.ref m, .int (nz (qf (qA f n k)))] (sh, I, J, R) (sh, I', J, R) none ∧ (RlP I' m f n s base nr (qA f n k) ∧ Sm (Frx m s base nr) I I') := by
  have hK := (stop_at (f := f) (n := n)).1
  obtain ⟨I1, c1, c2, c3⟩ := ct_expression (γ := γ) (l := l) (J := J) (lim := 500 * s + 401) hA hT hk hq h12 h13 h11 h32 (by rw [hs1]; omega)
  have c3' : Sm (Frx m s base nr) I I1 := c3.mono (fun b j z => Or.inl z)
  suffices hh : s_X9_relation_0 γ l m (nz (qf (qA f n k))) (sh, I, J, R) (fun hf v => ∃ I', hf = (sh, I', J, R) ∧ v = none ∧ (RlP I' m f n s base nr (qA f n k) ∧ Sm (Frx m s base nr) I I')) by
    obtain ⟨I', q1, q2⟩ := rW_ex hh
    exact ⟨I', e_X9_relation q1, q2⟩
  -- what is left after a fault
  have fex : ∀ (I2 : Nat → Nat → Int32), FltM I2 m f n → Sm (Frx m s base nr) I I2 → ∃ I', ((sh, up I2 m 36 0, J, R) : rHeap) = (sh, I', J, R) ∧ (none : Option Value) = none ∧ (RlP I' m f n s base nr (qA f n k) ∧ Sm (Frx m s base nr) I I') := fun I2 hF hS => ⟨_, rfl, rfl, Or.inl (hF.fr (fun j z => by rw [up_at, if_neg (by omega)])), hS.up (Or.inl (Or.inl ⟨rfl, by omega⟩))⟩
  have flt : ∀ (I2 : Nat → Nat → Int32) (x2 x3 : Int32), FltM I2 m f n → Sm (Frx m s base nr) I I2 → s_X9_relation_54 γ l m (nz (qf (qA f n k))) x2 x3 (sh, I2, J, R) (fun hf v => ∃ I', hf = (sh, I', J, R) ∧ v = none ∧ (RlP I' m f n s base nr (qA f n k) ∧ Sm (Frx m s base nr) I I')) := by
    intro I2 x2 x3 hF hS
    obtain ⟨I3, g1, g2⟩ := ct_nextF (γ := γ) (l := l) (sh := sh) (J := J) (R := R) hA hF.ne.2
    have hF3 : FltM I3 m f n := hF.fr (fun j z => g2 _ _ (by omega))
    have hn3 : ¬ up I3 m 36 0 m 13 ≤ 0 := by rw [up_at, if_neg (by omega)]; exact hF3.ne.2
    exact w_X9_relation_54 hA ⟨I3, g1, _, ct_expressionF hA hF3.ne.1, fun z => absurd z hn3, fun _ => fex I3 hF3 (hS.tr (g2.mono (fun b j z => Or.inl (by unfold Fex; omega))))⟩
  rcases c2 with c2 | ⟨k1, p1, p13, p11, p12, pw, pd, ps, pe, pt, p32, pS⟩
  · exact w_X9_relation_0 hA ⟨I1, c1, fun z => absurd z c2.ne.2, fun _ => w_X9_relation_32 hA ⟨fun z => absurd z c2.ne.1, fun _ => flt I1 _ _ c2 c3'⟩⟩
  · have hT1 : TkT I1 m f n := hT.fr (fun b j z => c3 _ _ (by unfold Fex; omega))
    obtain ⟨kd, t1, t2, t3, t4⟩ := hT1 k1 p1
    have hok : TkOk (tokA f n k1).1 (tokA f n k1).2.1 := tkA_ok
    obtain ⟨k40, _, _, _, _, _, _, _, _, _, _, _, _, k11, k11v, _⟩ := KR_f t2 hok
    refine w_X9_relation_0 hA ⟨I1, c1, fun _ => ?_, fun z => absurd (by rw [p13]; decide) z⟩
    rw [p11, nI_clamp (by omega), t1, h32]
    refine ⟨vp_in_nI (by omega) (by decide), ?_⟩
    have bad : ¬ (11 ≤ kd ∧ kd ≤ 14) → s_X9_relation_49 γ l m (nz (qf (qA f n k))) (nI base) (nI kd - 11) (sh, I1, J, R) (fun hf v => ∃ I', hf = (sh, I', J, R) ∧ v = none ∧ (RlP I' m f n s base nr (qA f n k) ∧ Sm (Frx m s base nr) I I')) := by
      intro hz
      have hg : goB (qA f n k1) (tokA f n k1).1 = false := by
        unfold goB
        rw [if_neg (by omega), if_neg (by omega), if_neg (by omega), if_neg (by omega), if_pos (by rw [ps]; exact hs1)]
        exact decide_eq_false (fun y => hz (k11.mpr y))
      obtain ⟨g1, g2⟩ := stop_no p1 (by omega) (Or.inr hg)
      obtain ⟨I3, f1, f2, f3⟩ := ct_failK (γ := γ) (l := l) (J := J) hA hT1 p13 p11 g1 g2 (by decide)
      exact w_X9_relation_49 hA ⟨I3, f1, flt I3 _ _ f2 (c3'.tr (f3.mono (fun b j z => Or.inl (by unfold Fex; omega))))⟩
    have good : (11 ≤ kd ∧ kd ≤ 14) → s_X9_relation_54 γ l m (nz (qf (qA f n k))) (nI base) (nI kd - 11) (sh, I1, J, R) (fun hf v => ∃ I', hf = (sh, I', J, R) ∧ v = none ∧ (RlP I' m f n s base nr (qA f n k) ∧ Sm (Frx m s base nr) I I')) := by
      intro hz
      have hss := k11.mp hz
      have ekd := k11v hss
      have hg : goB (qA f n k1) (tokA f n k1).1 = true := by
        unfold goB
        rw [if_neg (by omega), if_neg (by omega), if_neg (by omega), if_neg (by omega), if_pos (by rw [ps]; exact hs1)]
        exact decide_eq_true hss
      obtain ⟨I2, n1, n2, n3⟩ := ct_nextK (γ := γ) (l := l) (J := J) (k := k1) hA hT1 p13 p11 p1 (by omega) hg (fun z => by omega) (fun z => by omega)
      have hS2 : Sm (Frx m s base nr) I I2 := c3'.tr (n2.mono (fun b j z => Or.inl (by unfold Fex; omega)))
      rcases n3 with ⟨n3, _⟩ | ⟨n3, n4, n5, n6⟩
      · have hn3 : ¬ up I2 m 36 0 m 13 ≤ 0 := by rw [up_at, if_neg (by omega)]; exact n3.ne.2
        exact w_X9_relation_54 hA ⟨I2, n1, _, ct_expressionF hA n3.ne.1, fun z => absurd z hn3, fun _ => fex I2 n3 hS2⟩
      · have eq1 : qA f n (k1 + 1) = ((1, 2, 0), ([], []), qn (qA f n k), (qc (qA f n k), qe (qA f n k), qr (qA f n k)), (qf (qA f n k), (tokA f n k1).1 - 11, fl (qA f n k1))) := by
          show stpP (qA f n k1) (tokA f n k1).1 (tokA f n k1).2.1 = _
          rw [stp11 hss]
          simp only [qn, qc, qe, qr, qf, pe]
        generalize hlf : fl (qA f n k1) = lf at eq1 pS p32
        have hpl : (preC 2 (qn (qA f n k), (qc (qA f n k), qe (qA f n k), qr (qA f n k)), (qf (qA f n k), (tokA f n k1).1 - 11, lf))).length = (preC 1 (qA f n k).2.2).length + lf.length := by
          simp [preC, qn, qe, qr, qf]
          omega
        obtain ⟨I3, u1, u2, u3⟩ := ct_expression (γ := γ) (l := l) (J := J) (base := base + lf.length) (lim := 500 * s + 401) (k := k1 + 1) (I := I2) hA (hT1.fr (fun b j z => n2 _ _ (by omega))) n5 (by rw [eq1]; exact ⟨rfl, rfl, rfl, rfl⟩) ((n2 _ _ (by omega)).trans p12) n3 n4 ((n2 _ _ (by omega)).trans p32) (by rw [eq1]; show _ ≤ _ + (preC 2 _).length ∧ _; rw [hpl]; omega)
        have hS3 : Sm (Frx m s base nr) I I3 := hS2.tr (u3.mono (fun b j z => Or.inl (by unfold Fex at z ⊢; omega)))
        rcases u2 with u2 | ⟨k2, v1, v13, v11, v12, vw, vd, vs, ve, vt, v32, vS⟩
        · exact w_X9_relation_54 hA ⟨I2, n1, I3, u1, fun z => absurd z u2.ne.2, fun _ => ⟨I3, rfl, rfl, Or.inl u2, hS3⟩⟩
        · have pS3 : SegM I3 m base lf := pS.loc _ _ (fun b j z1 z2 z3 => (u3 _ _ (by unfold Fex; omega)).trans (n2 _ _ (by omega)))
          have e19 : I3 m 19 = nI s := (u3 _ _ (by unfold Fex; omega)).trans ((n2 _ _ (by omega)).trans ((c3 _ _ (by unfold Fex; omega)).trans h19))
          have e14 : I3 (m + 14) s = nI nr := (u3 _ _ (by unfold Fex; omega)).trans ((n2 _ _ (by omega)).trans ((c3 _ _ (by unfold Fex; omega)).trans h14))
          have e32 : I2 m 32 = nI (base + lf.length) := (n2 _ _ (by omega)).trans p32
          have hV2 := qA_V k2 v1
          rw [eq1] at vs ve
          have eix : (200 : Int32) * nI s + nI nr = nI (200 * s + nr) := by rw [show (200 : Int32) = nI 200 from rfl, pk_mul, nI_add]
          have hci : (nI (200 * s + nr)).toNatClampNeg = 200 * s + nr := nI_clamp (by omega)
          have hin : vp_in (nI (200 * s + nr)) 400 := vp_in_nI (by omega) (by decide)
          have hi2 : vp_in (nI s) 2 := vp_in_nI hs (by decide)
          have hc2 : (nI s).toNatClampNeg = s := nI_clamp (by omega)
          have d0 : ∀ d, 1 ≤ d → ¬ (m = m + d) := fun d hd => by omega
          have d1 : ∀ a b : Nat, a ≠ b → ¬ (m + a = m + b) := fun a b hd => by omega
          have ek : nI kd - 11 = nI ((tokA f n k1).1 - 11) := by rw [ekd]; exact pk_sub (a := (tokA f n k1).1) (b := 11) (by omega)
          refine w_X9_relation_54 hA ⟨I2, n1, I3, u1, fun _ => ?_, fun z => absurd (by rw [v13]; decide) z⟩
          rw [ek, e32]
          simp only [up_at, d0 15 (by omega), d0 16 (by omega), d0 17 (by omega), d0 18 (by omega), d0 19 (by omega), d1 14 15 (by omega), d1 14 16 (by omega), d1 14 17 (by omega), d1 14 18 (by omega), d1 14 19 (by omega), false_and, if_false, e19, hc2, e14, eix, hci, nI_1, v32]
          refine ⟨hi2, hin, hin, hin, hin, hin, hi2, hi2, _, rfl, trivial, Or.inr ⟨k2, (tokA f n k1).1 - 11, lf, v1, ?_, ⟨vw, vs, vd, ve⟩, vt, ?_, ⟨base, ⟨hb.1, Nat.le_refl _⟩, ?_⟩, ?_⟩, ?_⟩
          · simp only [up_at, d0 14 (by omega), d0 15 (by omega), d0 16 (by omega), d0 17 (by omega), d0 18 (by omega), d0 19 (by omega), false_and, if_false]
            exact ⟨v13, v11, v12⟩
          · simp only [up_at, d0 14 (by omega), d0 15 (by omega), d0 16 (by omega), d0 17 (by omega), d0 18 (by omega), d0 19 (by omega), false_and, if_false]
            exact v32
          · refine ⟨?_, ?_, ?_, ?_, ?_, pS3.loc _ _ (fun b j z1 z2 z3 => ?_), vS.loc _ _ (fun b j z1 z2 z3 => ?_)⟩
            · simp [up_at]
            · simp [up_at]
            · simp [up_at]
            · simp [up_at]
            · simp [up_at, nar_nz]
            · rw [up_at, if_neg (by omega), up_at, if_neg (by omega), up_at, if_neg (by omega), up_at, if_neg (by omega), up_at, if_neg (by omega), up_at, if_neg (by omega)]
            · rw [up_at, if_neg (by omega), up_at, if_neg (by omega), up_at, if_neg (by omega), up_at, if_neg (by omega), up_at, if_neg (by omega), up_at, if_neg (by omega)]
          · rw [up_at, if_pos ⟨rfl, rfl⟩]
          · have hF : ∀ a, m + 15 ≤ a → a ≤ m + 19 → Frx m s base nr a (200 * s + nr) := fun a ha hb => Or.inr (Or.inr ⟨ha, hb, rfl⟩)
            exact (((((hS3.up (hF _ (by omega) (by omega))).up (hF _ (by omega) (by omega))).up (hF _ (by omega) (by omega))).up (hF _ (by omega) (by omega))).up (hF _ (by omega) (by omega))).up (Or.inr (Or.inl ⟨rfl, rfl⟩))
    refine w_X9_relation_32 hA ⟨fun _ => ⟨fun z => bad ?_, fun z => ⟨fun y => good ?_, fun y => bad ?_⟩⟩, fun z => absurd p13 z⟩
    · intro hz
      rw [show nI kd - 11 = nI (kd - 11) from pk_sub (b := 11) hz.1] at z
      exact absurd z (nI_pos (by omega))
    · have h1 : 11 ≤ kd := by
        rcases Nat.lt_or_ge kd 11 with q | q
        · exact absurd (pk_sneg (b := 11) (by decide) q) z
        · exact q
      rw [show nI kd - 11 = nI (kd - 11) from pk_sub (b := 11) h1, show (3 : Int32) = nI 3 from rfl, nI_leI (by omega) (by decide)] at y
      omega
    · intro hz
      refine y ?_
      rw [show nI kd - 11 = nI (kd - 11) from pk_sub (b := 11) hz.1, show (3 : Int32) = nI 3 from rfl, nI_leI (by omega) (by decide)]
      omega
end MRL
