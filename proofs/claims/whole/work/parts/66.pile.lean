/-! ===== the model's fold and tuck; slit, lock, seal, soil of both ===== -/
/-- a row raised by a set's bits -/
def rsI (I : Nat → Nat → Int32) (r : Nat) (x : Int32) (k : Nat) : Nat → Nat → Int32 := fun b j => if b = r ∧ j < k then I b j + ((x >>> (nI j &&& 31)) &&& 1) else I b j
theorem rsI_0 {I : Nat → Nat → Int32} {r : Nat} {x : Int32} : rsI I r x 0 = I := by funext b j; unfold rsI; rw [if_neg (by omega)]
theorem rsI_s {I : Nat → Nat → Int32} {r k : Nat} {x : Int32} : up (rsI I r x k) r k (rsI I r x k r k + ((x >>> (nI k &&& 31)) &&& 1)) = rsI I r x (k + 1) := by
  funext b t
  simp only [up_at, rsI]
  by_cases h1 : b = r ∧ t = k
  · rw [if_pos h1, if_neg (by omega), if_pos (by omega), h1.1, h1.2]
  · rw [if_neg h1]
    by_cases h2 : b = r ∧ t < k
    · rw [if_pos h2, if_pos (by omega)]
    · rw [if_neg h2, if_neg (by omega)]
theorem rsI_off {I : Nat → Nat → Int32} {r k b j : Nat} {x : Int32} (h : b ≠ r) : rsI I r x k b j = I b j := by unfold rsI; rw [if_neg (fun z => h z.1)]
theorem rsI_row {I : Nat → Nat → Int32} {r k b : Nat} {x : Int32} (h : b ≠ r) : rsI I r x k b = I b := funext (fun j => rsI_off h)
theorem rsI_at {I : Nat → Nat → Int32} {r k s p : Nat} (hs : s < 2 ^ k) (hk : k ≤ 8) (hp : p < 8) : rsI I r (nI s) k r p = I r p + nz (s.testBit p) := by
  have h31 : s < 2 ^ 31 := Nat.lt_of_lt_of_le hs (Nat.pow_le_pow_right (by omega) (by omega))
  unfold rsI
  by_cases h : p < k
  · rw [if_pos ⟨rfl, h⟩, bt_bit (by omega) h31]
  · rw [if_neg (fun z => h z.2), bt_ge hs p (by omega)]
    simp [nz]
theorem nz_nI (b : Bool) : nz b = nI (if b then 1 else 0) := by cases b <;> decide
def hp (T : Sht) (c : Nat) : Nat := cnt (pC (nowP T)) c (pN (nowP T))
def setS (T : Sht) (s : Nat) : Sht := (yN T, yA T, yP T, yC T, yD T, (fun p => yS T p + (if s.testBit p then 1 else 0)), yW T, yK T)
def setW (T : Sht) (s : Nat) : Sht := (yN T, yA T, yP T, yC T, yD T, yS T, (fun p => yW T p + nz (s.testBit p)), yK T)
def setD (T : Sht) (d : Nat) : Sht := (yN T, yA T, yP T, yC T, d, yS T, yW T, yK T)
def slitT (T : Sht) (c k : Nat) : Sht := addAct (setS T (hiM (nowP T) c k)) (nowP T) (2, k, c, hp T c - k, 0)
def lockT (T : Sht) (c k : Nat) : Sht := addAct T (nowP T) (3, k, c, hp T c - k, hiM (nowP T) c k)
def sealT (T : Sht) (c : Nat) : Sht := addAct (setW T (hiM (nowP T) c 2)) (nowP T) (4, 2, c, hp T c - 2, hiM (nowP T) c 2)
def soilT (T : Sht) : Sht := addAct (setD T (yD T ||| ouM (nowP T))) (nowP T) (5, 0, 0, 0, 0)
def lockOk (T : Sht) (c k : Nat) : Prop := ∀ i, (hiM (nowP T) c k).testBit i = true → 0 < yS T i
theorem hiM_8 {P : Pk} {c k : Nat} (hP : PkV P) : hiM P c k < 2 ^ 8 := Nat.lt_of_lt_of_le (mkN_lt _ _) (Nat.pow_le_pow_right (by omega) hP.2.1)
section PIL
variable {γ : rG} {l : Launch} {sh : Nat × (Nat → Nat) × (Nat → Nat)} {I : Nat → Nat → Int32} {J : Nat → Nat → Int64} {R : Nat → Nat → Option Nat} {a m n : Nat} {T : Sht} {left : Bool}
theorem cm_fold_no {x ov : Int32} (hA : At9 sh R m) (hV : V_sheet n T) (hM : M_sheet I m T) (h : yA T = 16 ∨ x < 1 ∨ ¬ x < nI (pW (nowP T))) : rMet γ l m_X9_fold [.ref m, .int x, .int (nz left), .int ov] (sh, I, J, R) (sh, I, J, R) (some (.int (-1))) := by
  have h16 := hV.2.2.1
  have e1 := (M_now hM).2.1
  refine e_X9_fold (rW_pure (w_X9_fold_0 hA ?_))
  rw [hM.1.2, nI_clamp (by omega), e1]
  refine ⟨fun _ => ⟨rfl, rfl⟩, fun z1 => ⟨fun _ => ⟨rfl, rfl⟩, fun z2 => ⟨vp_in_nI (by omega) (by decide), fun z3 => ?_, fun _ => ⟨rfl, rfl⟩⟩⟩⟩
  exfalso
  rcases h with h | h | h
  · rw [h] at z1; exact z1 (by decide)
  · exact z2 h
  · exact h z3
theorem cm_fold_ok {x : Nat} {over : Bool} (hA : At9 sh R m) (hV : V_sheet n T) (hM : M_sheet I m T) (h16 : yA T < 16) (hx1 : 1 ≤ x) (hx : x < pW (nowP T)) :
    ∃ I', rMet γ l m_X9_fold [.ref m, .int (nI x), .int (nz left), .int (nz over)] (sh, I, J, R) (sh, I', J, R) (some (.int (nI (yA T)))) ∧ M_sheet I' m (turnT T 0 x left (if over then 8 else 0)) ∧ Sm (Fm m) I I' := by
  obtain ⟨hP, hN⟩ := V_now hV
  have hw := hP.2.2.2.1
  have key : s_X9_fold_0 γ l m (nI x) (nz left) (nz over) (sh, I, J, R) (fun hf v => ∃ I', hf = (sh, I', J, R) ∧ v = some (.int (nI (yA T))) ∧ (M_sheet I' m (turnT T 0 x left (if over then 8 else 0)) ∧ Sm (Fm m) I I')) := by
    have b52 : ∀ how : Int32, hwL how (if over then 8 else 0) → s_X9_fold_52 γ l m (nI x) (nz left) how (nz left) (nI x) (nI (yA T + 1)) (nI (yA T)) m m (sh, I, J, R) (fun hf v => ∃ I', hf = (sh, I', J, R) ∧ v = some (.int (nI (yA T))) ∧ (M_sheet I' m (turnT T 0 x left (if over then 8 else 0)) ∧ Sm (Fm m) I I')) := by
      intro how hh
      obtain ⟨I1, c1, c2, c3⟩ := ct_folds (γ := γ) (l := l) (J := J) (left := left) hA (show yA T < 22 by omega) (show yA T + 1 < 22 by omega) (by omega) hP hx1 hx (M_now hM) hh
      obtain ⟨I4, I8, d1, d2, d3, d4, d5⟩ := M_turnT (γ := γ) (l := l) (J := J) (k := 0) hA hV hM h16 hx1 hx c2 c3
      exact w_X9_fold_52 hA hA hA ⟨I1, _, c1, I4, d1, _, d2, I8, _, d3, I8, rfl, rfl, d4, d5⟩
    refine w_X9_fold_0 hA ?_
    rw [hM.1.2, nI_clamp (by omega), (M_now hM).2.1, nI_1, nz_0]
    refine ⟨fun z => absurd z (fun w => by rw [show (16 : Int32) = nI 16 by decide, nI_eq (by omega) (by decide)] at w; omega), fun _ => ⟨fun z => absurd z (nI_nlt hx1 (by omega)), fun _ => ⟨vp_in_nI (by omega) (by decide), fun _ => ⟨fun z => b52 _ ?_, fun z => b52 _ ?_⟩, fun z => absurd (nI_lt hx (by omega)) z⟩⟩⟩
    · rw [z]; exact Or.inr (Or.inl ⟨rfl, rfl⟩)
    · rw [show over = true by simpa using z]; exact Or.inl ⟨rfl, rfl⟩
  obtain ⟨I', h1, h2⟩ := rW_ex key
  exact ⟨I', e_X9_fold h1, h2⟩
theorem cm_tuck_no {x lv : Int32} (hA : At9 sh R m) (hV : V_sheet n T) (hM : M_sheet I m T) (h : yA T = 16 ∨ x < 1 ∨ (¬ x < nI (pW (nowP T))) ∨ lv < 0 ∨ ¬ lv ≤ 8) : rMet γ l m_X9_tuck [.ref m, .int x, .int (nz left), .int lv] (sh, I, J, R) (sh, I, J, R) (some (.int (-1))) := by
  have h16 := hV.2.2.1
  have e1 := (M_now hM).2.1
  refine e_X9_tuck (rW_pure (w_X9_tuck_0 hA ?_))
  rw [hM.1.2, nI_clamp (by omega), e1]
  refine ⟨fun _ => ⟨rfl, rfl⟩, fun z1 => ⟨fun _ => ⟨rfl, rfl⟩, fun z2 => ⟨vp_in_nI (by omega) (by decide), fun _ => ⟨rfl, rfl⟩, fun z3 => ⟨fun _ => ⟨rfl, rfl⟩, fun z4 => ⟨fun z5 => ?_, fun _ => ⟨rfl, rfl⟩⟩⟩⟩⟩⟩
  exfalso
  rcases h with h | h | h | h | h
  · rw [h] at z1; exact z1 (by decide)
  · exact z2 h
  · exact z3 (Int32.not_lt.mp h)
  · exact z4 h
  · exact h z5
theorem cm_tuck_ok {x lev : Nat} (hA : At9 sh R m) (hV : V_sheet n T) (hM : M_sheet I m T) (h16 : yA T < 16) (hx1 : 1 ≤ x) (hx : x < pW (nowP T)) (hl : lev ≤ 8) :
    ∃ I', rMet γ l m_X9_tuck [.ref m, .int (nI x), .int (nz left), .int (nI lev)] (sh, I, J, R) (sh, I', J, R) (some (.int (if @decide (Pass (turnP (nowP T) x left lev)) (Classical.propDecidable _) then -2 else nI (yA T)))) ∧ M_sheet I' m (if @decide (Pass (turnP (nowP T) x left lev)) (Classical.propDecidable _) then T else turnT T 1 x left lev) ∧ Sm (Fm m) I I' := by
  obtain ⟨hP, hN⟩ := V_now hV
  have hw := hP.2.2.2.1
  have key : s_X9_tuck_0 γ l m (nI x) (nz left) (nI lev) (sh, I, J, R) (fun hf v => ∃ I', hf = (sh, I', J, R) ∧ v = some (.int (if @decide (Pass (turnP (nowP T) x left lev)) (Classical.propDecidable _) then -2 else nI (yA T))) ∧ (M_sheet I' m (if @decide (Pass (turnP (nowP T) x left lev)) (Classical.propDecidable _) then T else turnT T 1 x left lev) ∧ Sm (Fm m) I I')) := by
    obtain ⟨I1, c1, c2, c3⟩ := ct_folds (γ := γ) (l := l) (J := J) (left := left) (how := nI (2 + lev)) (lev := lev) hA (show yA T < 22 by omega) (show yA T + 1 < 22 by omega) (by omega) hP hx1 hx (M_now hM) (Or.inr (Or.inr ⟨hl, by rw [Nat.add_comm]⟩))
    obtain ⟨I4, I8, d1, d2, d3, d4, d5⟩ := M_turnT (γ := γ) (l := l) (J := J) (k := 1) hA hV hM h16 hx1 hx c2 c3
    have h48 : I1 m 48 = nI (yA T) := (c3 m 48 (by unfold Ft; omega)).trans hM.1.2
    have c4 : rMet γ l m_X9_mayBe [.ref m, .int (I1 m 48 + 1)] (sh, I1, J, R) (sh, I1, J, R) (some (.int (bz (¬ BadM (turnP (nowP T) x left lev))))) := by
      rw [h48, nI_1]; exact ct_mayBe hA (by omega) (turn_V hP hx1 hx) c2
    refine w_X9_tuck_0 hA ?_
    rw [hM.1.2, nI_clamp (by omega), (M_now hM).2.1, nI_1, show (2 : Int32) + nI lev = nI (2 + lev) from nI_add 2 lev]
    refine ⟨fun z => absurd z (fun w => by rw [show (16 : Int32) = nI 16 by decide, nI_eq (by omega) (by decide)] at w; omega), fun _ => ⟨fun z => absurd z (nI_nlt hx1 (by omega)), fun _ => ⟨vp_in_nI (by omega) (by decide), fun z => absurd z (nI_ge hx (by omega)), fun _ => ⟨fun z => absurd z (nI_pos (by omega)), fun _ => ⟨fun _ => ⟨I1, _, c1, _, c4, fun z => ?_, fun z => ?_⟩, fun z => absurd (nI_le hl (by decide)) z⟩⟩⟩⟩⟩
    · rw [bz_0, Classical.not_not, ← pass_bad (turn_V hP hx1 hx)] at z
      refine ⟨I1, rfl, ?_, ?_, fun b j q => c3 b j (fun w => q ?_)⟩
      · rw [@decide_eq_true _ (Classical.propDecidable _) z]; rfl
      · rw [@decide_eq_true _ (Classical.propDecidable _) z]; exact hM.loc hV (fun b j _ q2 => c3 b j q2)
      · unfold Ft at w; unfold Fm; omega
    · rw [bz_0, Classical.not_not, ← pass_bad (turn_V hP hx1 hx)] at z
      refine ⟨I4, d1, _, d2, I8, _, d3, I8, rfl, ?_, ?_, d5⟩
      · rw [@decide_eq_false _ (Classical.propDecidable _) z]; rfl
      · rw [@decide_eq_false _ (Classical.propDecidable _) z]; exact d4
  obtain ⟨I', h1, h2⟩ := rW_ex key
  exact ⟨I', e_X9_tuck h1, h2⟩
/-! the class: raise, slitParts, keepOnPile -/
theorem raise_loop {r N : Nat} {x : Int32} (hA : At5 sh R a) (hr : rK sh r 11) (h8 : sh.2.2 r = 8) (hra : r ≠ a) (hN : I a 0 = nI N) (hN8 : N ≤ 8) : ∀ j k, k + j = N → s_X5_raise_2 γ l a r x (nI k) (sh, rsI I r x k, J, R) (fun hf v => hf = (sh, rsI I r x N, J, R) ∧ v = none) := by
  intro j
  induction j with
  | zero =>
    intro k hk
    have e : k = N := by omega
    subst e
    refine w_X5_raise_2 hA hr h8 ⟨fun _ => ⟨rfl, rfl⟩, fun z => absurd ?_ z⟩
    rw [rsI_off (fun z => hra z.symm), hN]; exact nI_le (Nat.le_refl _) (by omega)
  | succ j ih =>
    intro k hk
    have hv : vp_in (nI k) 8 := vp_in_nI (by omega) (by decide)
    refine w_X5_raise_2 hA hr h8 ⟨fun z => absurd z ?_, fun _ => ⟨hv, hv, ?_⟩⟩
    · rw [rsI_off (fun z => hra z.symm), hN]; exact nI_ge (by omega) (by omega)
    · rw [nI_clamp (by omega), rsI_s, nI_1]
      exact ih (k + 1) (by omega)
theorem ct_raise {r N : Nat} {x : Int32} (hA : At5 sh R a) (hr : rK sh r 11) (h8 : sh.2.2 r = 8) (hra : r ≠ a) (hN : I a 0 = nI N) (hN8 : N ≤ 8) : rMet γ l m_X5_raise [.ref a, .ref r, .int x] (sh, I, J, R) (sh, rsI I r x N, J, R) none := by
  have lp := raise_loop (γ := γ) (l := l) (J := J) (x := x) hA hr h8 hra hN hN8 N 0 (by omega)
  rw [rsI_0] at lp
  exact e_X5_raise (rW_pure (w_X5_raise_0 hA hr h8 lp))
theorem slitParts_loop (hA : At5 sh R a) (hV : V_sheet n T) (hn : n < 2 ^ 31) (hC : C_sheet I a T) : ∀ j k, k + j = yN T → s_X5_slitParts_4 γ l a (nI (mkN (fun p => decide (0 < yS T p)) k)) (nI k) (sh, I, J, R) (fun hf v => hf = (sh, I, J, R) ∧ v = some (.int (nI (mkN (fun p => decide (0 < yS T p)) (yN T))))) := by
  have h8 := hV.2.1
  intro j
  induction j with
  | zero =>
    intro k hk
    have e : k = yN T := by omega
    subst e
    exact w_X5_slitParts_4 hA ⟨fun _ => ⟨rfl, rfl⟩, fun z => absurd (by rw [hC.1.1]; exact nI_le (Nat.le_refl _) (by omega)) z⟩
  | succ j ih =>
    intro k hk
    have nx := ih (k + 1) (by omega)
    have hs := hV.2.2.2.2.2.2.1 k (by omega)
    refine w_X5_slitParts_4 hA ⟨fun z => absurd z (by rw [hC.1.1]; exact nI_ge (by omega) (by omega)), fun _ => ⟨vp_in_nI (by omega) (by decide), ?_⟩⟩
    rw [nI_clamp (by omega), (hC.2.1 k (by omega)).1, nI_1, bt_one (by omega), bt_or (mkN_31 _ (by omega)) (bt_p (by omega))]
    simp only [mkN] at nx
    refine ⟨fun z => ?_, fun z => ?_⟩
    · have h0 : ¬ 0 < yS T k := fun q => nI_nle q (by omega) z
      rw [if_neg (by simpa using h0), Nat.or_zero] at nx
      exact nx
    · have h0 : 0 < yS T k := by
        rcases Nat.eq_zero_or_pos (yS T k) with q | q
        · rw [q] at z; exact absurd (by decide) z
        · exact q
      rw [if_pos (by simpa using h0)] at nx
      exact nx
theorem ct_slitParts (hA : At5 sh R a) (hV : V_sheet n T) (hn : n < 2 ^ 31) (hC : C_sheet I a T) : rMet γ l m_X5_slitParts [.ref a] (sh, I, J, R) (sh, I, J, R) (some (.int (nI (mkN (fun p => decide (0 < yS T p)) (yN T))))) :=
  e_X5_slitParts (rW_pure (w_X5_slitParts_0 hA (slitParts_loop hA hV hn hC (yN T) 0 (by omega))))
theorem ct_keepOnPile {kd c k s : Nat} (hA : At5 sh R a) (hV : V_sheet n T) (hC : C_sheet I a T) (h16 : yA T < 16) (hc : c < pW (nowP T)) (hk : k ≤ hp T c) :
    ∃ I', rMet γ l m_X5_keepOnPile [.ref a, .int (nI kd), .int (nI c), .int (nI k), .int (nI s)] (sh, I, J, R) (sh, I', J, R) (some (.int (nI (yA T)))) ∧ C_sheet I' a (addAct T (nowP T) (kd, k, c, hp T c - k, s)) ∧ Sm (Fc a) I I' := by
  obtain ⟨hP, hN⟩ := V_now hV
  have hB := (At5_p hA (yA T) (by omega)).2
  have hB2 := (At5_p hA (yA T + 1) (by omega)).2
  have hC2 : PkC (tLA I (a + 9 + 6 * (yA T + 1)) (nowP T) (pN (nowP T))) (a + 9 + 6 * (yA T + 1)) (nowP T) := PkC_lay hP.inn
  have hC1 : PkC (tLA I (a + 9 + 6 * (yA T + 1)) (nowP T) (pN (nowP T))) (a + 9 + 6 * yA T) (nowP T) := (C_now hC).loc (fun b q1 q2 => tLA_row (by omega))
  have hL : C_sheet (tLA I (a + 9 + 6 * (yA T + 1)) (nowP T) (pN (nowP T))) a T := hC.loc (by omega) (fun b j _ q2 => by rw [tLA_row (by omega)])
  have key : s_X5_keepOnPile_0 γ l a (nI kd) (nI c) (nI k) (nI s) (sh, I, J, R) (fun hf v => ∃ I', hf = (sh, I', J, R) ∧ v = some (.int (nI (yA T))) ∧ (C_sheet I' a (addAct T (nowP T) (kd, k, c, hp T c - k, s)) ∧ Sm (Fc a) I I')) := by
    refine w_X5_keepOnPile_0 hA ?_
    rw [hC.1.2.1, nI_1]
    refine ⟨vp_in_nI (by omega) (by decide), _, ?_, hB2, _, ct_packet hA (by omega) hC.1.2.1, hB, _, ct_copy hB2 hB (by omega) hP.inn (C_now hC), _, ct_packet hA (by omega) hL.1.2.1, hB, _, ct_heightOf hB hP.inn hC1, _, _, ct_keep hA h16 hL.1.2.1, _, rfl, rfl, ?_, fun b j q => ?_⟩
    · rw [nI_clamp (by omega)]; exact (At5_p hA (yA T + 1) (by omega)).1
    · rw [hgt_at hP hc, show cnt (pC (nowP T)) c (pN (nowP T)) = hp T c from rfl, pk_sub hk]
      exact C_keep hL h16 hC2
    · unfold Fc at q
      rw [kpI_off (by omega) (by omega)]
      show tLA I (a + 9 + 6 * (yA T + 1)) (nowP T) (pN (nowP T)) b j = I b j
      rw [tLA_row (by omega)]
  obtain ⟨I', h1, h2⟩ := rW_ex key
  exact ⟨I', e_X5_keepOnPile h1, h2⟩
theorem C_setS {s : Nat} (hC : C_sheet I a T) (hs : s < 2 ^ yN T) (h8 : yN T ≤ 8) : C_sheet (rsI I (a + 1) (nI s) (yN T)) a (setS T s) := by
  obtain ⟨⟨h1, h2, h3, h4⟩, h5, h6, h7⟩ := hC
  refine ⟨⟨(rsI_off (by omega)).trans h1, (rsI_off (by omega)).trans h2, (rsI_off (by omega)).trans h3, (rsI_off (by omega)).trans h4⟩, fun p hp => ⟨?_, (rsI_off (by omega)).trans (h5 p hp).2⟩, fun i hi => (h6 i hi).loc (fun b q1 q2 => rsI_row (by omega)), fun i hi => ?_⟩
  · rw [rsI_at hs h8 hp, (h5 p hp).1, nz_nI, nI_add]; rfl
  · obtain ⟨r1, r2, r3, r4, r5⟩ := h7 i hi
    exact ⟨(rsI_off (by omega)).trans r1, (rsI_off (by omega)).trans r2, (rsI_off (by omega)).trans r3, (rsI_off (by omega)).trans r4, (rsI_off (by omega)).trans r5⟩
theorem C_setW {s : Nat} (hC : C_sheet I a T) (hs : s < 2 ^ yN T) (h8 : yN T ≤ 8) : C_sheet (rsI I (a + 2) (nI s) (yN T)) a (setW T s) := by
  obtain ⟨⟨h1, h2, h3, h4⟩, h5, h6, h7⟩ := hC
  refine ⟨⟨(rsI_off (by omega)).trans h1, (rsI_off (by omega)).trans h2, (rsI_off (by omega)).trans h3, (rsI_off (by omega)).trans h4⟩, fun p hp => ⟨(rsI_off (by omega)).trans (h5 p hp).1, ?_⟩, fun i hi => (h6 i hi).loc (fun b q1 q2 => rsI_row (by omega)), fun i hi => ?_⟩
  · rw [rsI_at hs h8 hp, (h5 p hp).2]; rfl
  · obtain ⟨r1, r2, r3, r4, r5⟩ := h7 i hi
    exact ⟨(rsI_off (by omega)).trans r1, (rsI_off (by omega)).trans r2, (rsI_off (by omega)).trans r3, (rsI_off (by omega)).trans r4, (rsI_off (by omega)).trans r5⟩
theorem V_setS {s : Nat} (hV : V_sheet n T) : V_sheet (n + 1) (setS T s) := by
  obtain ⟨h1, h2, h3, h4, h5, h6, h7, h8⟩ := hV
  refine ⟨h1, h2, h3, h4, h5, h6, fun p hp => ?_, h8⟩
  have := h7 p hp
  show yS T p + (if s.testBit p then 1 else 0) ≤ n + 1
  split <;> omega
theorem V_mono {k : Nat} (hV : V_sheet n T) (h : n ≤ k) : V_sheet k T := by
  obtain ⟨h1, h2, h3, h4, h5, h6, h7, h8⟩ := hV
  exact ⟨h1, h2, h3, h4, h5, h6, fun p hp => Nat.le_trans (h7 p hp) h, h8⟩
theorem hp_le (hV : V_sheet n T) (c : Nat) : hp T c ≤ 8 := by
  have h1 := cnt_le (pC (nowP T)) c (pN (nowP T))
  have h2 := (V_now hV).1.2.1
  unfold hp
  omega
theorem hgt_no {x : Int32} (hV : V_sheet n T) (h : ¬ (¬ x < 0 ∧ x < nI (pW (nowP T)))) : hgt (nowP T) x = -1 := by unfold hgt; rw [if_neg h]
/-- a column, and not fewer than so many layers -/
theorem col_cases {x y : Int32} {lo : Nat} (hV : V_sheet n T) (hlo : 1 ≤ lo ∧ lo < 8) : (y < nI lo ∨ ¬ y ≤ hgt (nowP T) x) ∨ ∃ c k : Nat, x = nI c ∧ y = nI k ∧ c < pW (nowP T) ∧ lo ≤ k ∧ k ≤ hp T c := by
  have hP := (V_now hV).1
  have hw := hP.2.2.2.1
  by_cases g1 : y < nI lo
  · exact Or.inl (Or.inl g1)
  by_cases g2 : y ≤ hgt (nowP T) x
  · right
    have y0 : ¬ y < 0 := fun q => g1 (by rw [Int32.lt_iff_toInt_lt] at q ⊢; rw [nI_toInt (by omega)]; have e0 : (0 : Int32).toInt = 0 := (by decide); omega)
    obtain ⟨k, hk, rfl⟩ := nI_of y0
    by_cases g3 : ¬ x < 0 ∧ x < nI (pW (nowP T))
    · obtain ⟨c, hc, rfl⟩ := nI_of g3.1
      have hcw := (nI_ltI hc (by omega)).mp g3.2
      rw [hgt_at hP hcw] at g2
      have h9 : hp T c ≤ 8 := hp_le hV c
      exact ⟨c, k, rfl, rfl, hcw, by rw [nI_ltI hk (by omega)] at g1; omega, (nI_leI hk (show hp T c < 2 ^ 31 by omega)).mp g2⟩
    · rw [hgt_no hV g3] at g2
      exact absurd (Int32.lt_of_le_of_lt g2 (by decide)) y0
  · exact Or.inl (Or.inr g2)
theorem ct_cut_no {x y : Int32} (hA : At5 sh R a) (hV : V_sheet n T) (hC : C_sheet I a T) (h : yA T = 16 ∨ y < 1 ∨ ¬ y ≤ hgt (nowP T) x) : rMet γ l m_X5_cut [.ref a, .int x, .int y] (sh, I, J, R) (sh, I, J, R) (some (.int (-1))) := by
  have h16 := hV.2.2.1
  have hB := (At5_p hA (yA T) (by omega)).2
  refine e_X5_cut (rW_pure (w_X5_cut_0 hA ?_))
  rw [hC.1.2.1]
  refine ⟨fun _ => ⟨rfl, rfl⟩, fun z1 => ⟨fun _ => ⟨rfl, rfl⟩, fun z2 => ⟨_, ct_packet hA h16 hC.1.2.1, hB, _, ct_heightOf hB (V_now hV).1.inn (C_now hC), fun z3 => ?_, fun _ => ⟨rfl, rfl⟩⟩⟩⟩
  exfalso
  rcases h with h | h | h
  · rw [h] at z1; exact z1 (by decide)
  · exact z2 h
  · exact h z3
theorem hgt_le {c k : Nat} (hV : V_sheet n T) (hc : c < pW (nowP T)) (hk : k ≤ hp T c) : nI k ≤ hgt (nowP T) (nI c) := by
  rw [hgt_at (V_now hV).1 hc]
  have := hp_le hV c
  exact nI_le hk (by unfold hp at this; omega)
theorem ct_cut_ok {c k : Nat} (hA : At5 sh R a) (hV : V_sheet n T) (hC : C_sheet I a T) (h16 : yA T < 16) (hc : c < pW (nowP T)) (hk1 : 1 ≤ k) (hk : k ≤ hp T c) :
    ∃ I', rMet γ l m_X5_cut [.ref a, .int (nI c), .int (nI k)] (sh, I, J, R) (sh, I', J, R) (some (.int (nI (yA T)))) ∧ C_sheet I' a (slitT T c k) ∧ Sm (Fc a) I I' := by
  obtain ⟨hP, hN⟩ := V_now hV
  have hB := (At5_p hA (yA T) (by omega)).2
  have h8 := hp_le hV c
  have hs : hiM (nowP T) c k < 2 ^ yN T := by rw [← hN]; exact mkN_lt _ _
  have hC2 := C_setS hC hs hV.2.1
  obtain ⟨I', q1, q2, q3⟩ := ct_keepOnPile (γ := γ) (l := l) (J := J) (kd := 2) (c := c) (k := k) (s := 0) (T := setS T (hiM (nowP T) c k)) hA (V_setS hV) hC2 h16 hc hk
  rw [nI_0] at q1
  have key : s_X5_cut_0 γ l a (nI c) (nI k) (sh, I, J, R) (fun hf v => ∃ I', hf = (sh, I', J, R) ∧ v = some (.int (nI (yA T))) ∧ (C_sheet I' a (slitT T c k) ∧ Sm (Fc a) I I')) := by
    refine w_X5_cut_0 hA ?_
    rw [hC.1.2.1]
    refine ⟨fun z => absurd z (nI_ge h16 (by decide)), fun _ => ⟨fun z => absurd z (nI_nlt hk1 (by omega)), fun _ => ⟨_, ct_packet hA (by omega) hC.1.2.1, hB, _, ct_heightOf hB hP.inn (C_now hC), fun _ => ⟨_, ct_packet hA (by omega) hC.1.2.1, hB, _, ct_highest hB hP (C_now hC) hc hk, _, ct_raise hA (At5_4 hA).2.1 (At5_4 hA).2.2 (by omega) hC.1.1 hV.2.1, I', _, q1, I', rfl, rfl, q2, fun b j w => ?_⟩, fun z => absurd (hgt_le hV hc hk) z⟩⟩⟩
    rw [q3 b j w, rsI_off (by unfold Fc at w; omega)]
  obtain ⟨I', h1, h2⟩ := rW_ex key
  exact ⟨I', e_X5_cut h1, h2⟩
theorem ct_strip_no {x y : Int32} (hA : At5 sh R a) (hV : V_sheet n T) (hC : C_sheet I a T) (h : yA T = 16 ∨ y < 2 ∨ ¬ y ≤ hgt (nowP T) x) : rMet γ l m_X5_bindByStrip [.ref a, .int x, .int y] (sh, I, J, R) (sh, I, J, R) (some (.int (-1))) := by
  have h16 := hV.2.2.1
  have hB := (At5_p hA (yA T) (by omega)).2
  refine e_X5_bindByStrip (rW_pure (w_X5_bindByStrip_0 hA ?_))
  rw [hC.1.2.1]
  refine ⟨fun _ => ⟨rfl, rfl⟩, fun z1 => ⟨fun _ => ⟨rfl, rfl⟩, fun z2 => ⟨_, ct_packet hA h16 hC.1.2.1, hB, _, ct_heightOf hB (V_now hV).1.inn (C_now hC), fun z3 => ?_, fun _ => ⟨rfl, rfl⟩⟩⟩⟩
  exfalso
  rcases h with h | h | h
  · rw [h] at z1; exact z1 (by decide)
  · exact z2 h
  · exact h z3
theorem slit_in {s : Nat} (hs : s < 2 ^ yN T) : (∀ i, s.testBit i = true → (mkN (fun p => decide (0 < yS T p)) (yN T)).testBit i = true) ↔ ∀ i, s.testBit i = true → 0 < yS T i := by
  constructor
  · intro h i hi
    have := h i hi
    rw [mkN_bit] at this
    simp at this
    exact this.2
  · intro h i hi
    rw [mkN_bit]
    have hlt : i < yN T := by
      rcases Nat.lt_or_ge i (yN T) with q | q
      · exact q
      · rw [bt_ge hs i q] at hi; exact absurd hi (by decide)
    simp [hlt, h i hi]
theorem ct_strip_ok {c k : Nat} (hA : At5 sh R a) (hV : V_sheet n T) (hn : n < 2 ^ 31) (hC : C_sheet I a T) (h16 : yA T < 16) (hc : c < pW (nowP T)) (hk1 : 2 ≤ k) (hk : k ≤ hp T c) (hok : lockOk T c k) :
    ∃ I', rMet γ l m_X5_bindByStrip [.ref a, .int (nI c), .int (nI k)] (sh, I, J, R) (sh, I', J, R) (some (.int (nI (yA T)))) ∧ C_sheet I' a (lockT T c k) ∧ Sm (Fc a) I I' := by
  obtain ⟨hP, hN⟩ := V_now hV
  have hB := (At5_p hA (yA T) (by omega)).2
  have h8 := hp_le hV c
  have hs : hiM (nowP T) c k < 2 ^ yN T := by rw [← hN]; exact mkN_lt _ _
  obtain ⟨I', q1, q2, q3⟩ := ct_keepOnPile (γ := γ) (l := l) (J := J) (kd := 3) (c := c) (k := k) (s := hiM (nowP T) c k) hA hV hC h16 hc hk
  have key : s_X5_bindByStrip_0 γ l a (nI c) (nI k) (sh, I, J, R) (fun hf v => ∃ I', hf = (sh, I', J, R) ∧ v = some (.int (nI (yA T))) ∧ (C_sheet I' a (lockT T c k) ∧ Sm (Fc a) I I')) := by
    refine w_X5_bindByStrip_0 hA ?_
    rw [hC.1.2.1]
    refine ⟨fun z => absurd z (nI_ge h16 (by decide)), fun _ => ⟨fun z => absurd z (nI_nlt hk1 (by omega)), fun _ => ⟨_, ct_packet hA (by omega) hC.1.2.1, hB, _, ct_heightOf hB hP.inn (C_now hC), fun _ => ⟨_, ct_packet hA (by omega) hC.1.2.1, hB, _, ct_highest hB hP (C_now hC) hc hk, _, ct_slitParts hA hV hn hC, fun _ => ⟨I', _, q1, I', rfl, rfl, q2, q3⟩, fun z => absurd ?_ z⟩, fun z => absurd (hgt_le hV hc hk) z⟩⟩⟩
    rw [bt_not (hiM_31 hP) (mkN_31 _ (by have := hV.2.1; omega)), slit_in hs]
    exact hok
  obtain ⟨I', h1, h2⟩ := rW_ex key
  exact ⟨I', e_X5_bindByStrip h1, h2⟩
theorem ct_strip_cant {c k : Nat} (hA : At5 sh R a) (hV : V_sheet n T) (hn : n < 2 ^ 31) (hC : C_sheet I a T) (h16 : yA T < 16) (hc : c < pW (nowP T)) (hk1 : 2 ≤ k) (hk : k ≤ hp T c) (hok : ¬ lockOk T c k) : rMet γ l m_X5_bindByStrip [.ref a, .int (nI c), .int (nI k)] (sh, I, J, R) (sh, I, J, R) (some (.int (-2))) := by
  obtain ⟨hP, hN⟩ := V_now hV
  have hB := (At5_p hA (yA T) (by omega)).2
  have h8 := hp_le hV c
  have hs : hiM (nowP T) c k < 2 ^ yN T := by rw [← hN]; exact mkN_lt _ _
  refine e_X5_bindByStrip (rW_pure (w_X5_bindByStrip_0 hA ?_))
  rw [hC.1.2.1]
  refine ⟨fun z => absurd z (nI_ge h16 (by decide)), fun _ => ⟨fun z => absurd z (nI_nlt hk1 (by omega)), fun _ => ⟨_, ct_packet hA (by omega) hC.1.2.1, hB, _, ct_heightOf hB hP.inn (C_now hC), fun _ => ⟨_, ct_packet hA (by omega) hC.1.2.1, hB, _, ct_highest hB hP (C_now hC) hc hk, _, ct_slitParts hA hV hn hC, fun z => absurd ?_ hok, fun _ => ⟨rfl, rfl⟩⟩, fun z => absurd (hgt_le hV hc hk) z⟩⟩⟩
  rw [bt_not (hiM_31 hP) (mkN_31 _ (by have := hV.2.1; omega)), slit_in hs] at z
  exact z
theorem ct_wax_no {x : Int32} (hA : At5 sh R a) (hV : V_sheet n T) (hC : C_sheet I a T) (h : yA T = 16 ∨ ¬ (2 : Int32) ≤ hgt (nowP T) x) : rMet γ l m_X5_bindByWax [.ref a, .int x] (sh, I, J, R) (sh, I, J, R) (some (.int (-1))) := by
  have h16 := hV.2.2.1
  have hB := (At5_p hA (yA T) (by omega)).2
  refine e_X5_bindByWax (rW_pure (w_X5_bindByWax_0 hA ?_))
  rw [hC.1.2.1]
  refine ⟨fun _ => ⟨rfl, rfl⟩, fun z1 => ⟨_, ct_packet hA h16 hC.1.2.1, hB, _, ct_heightOf hB (V_now hV).1.inn (C_now hC), fun z3 => ?_, fun _ => ⟨rfl, rfl⟩⟩⟩
  exfalso
  rcases h with h | h
  · rw [h] at z1; exact z1 (by decide)
  · exact h z3
theorem ct_wax_ok {c : Nat} (hA : At5 sh R a) (hV : V_sheet n T) (hC : C_sheet I a T) (h16 : yA T < 16) (hc : c < pW (nowP T)) (hk : 2 ≤ hp T c) :
    ∃ I', rMet γ l m_X5_bindByWax [.ref a, .int (nI c)] (sh, I, J, R) (sh, I', J, R) (some (.int (nI (yA T)))) ∧ C_sheet I' a (sealT T c) ∧ Sm (Fc a) I I' := by
  obtain ⟨hP, hN⟩ := V_now hV
  have hB := (At5_p hA (yA T) (by omega)).2
  have hs : hiM (nowP T) c 2 < 2 ^ yN T := by rw [← hN]; exact mkN_lt _ _
  have hC2 := C_setW hC hs hV.2.1
  have hV2 : V_sheet n (setW T (hiM (nowP T) c 2)) := hV
  obtain ⟨I', q1, q2, q3⟩ := ct_keepOnPile (γ := γ) (l := l) (J := J) (kd := 4) (c := c) (k := 2) (s := hiM (nowP T) c 2) (T := setW T (hiM (nowP T) c 2)) hA hV2 hC2 h16 hc hk
  have key : s_X5_bindByWax_0 γ l a (nI c) (sh, I, J, R) (fun hf v => ∃ I', hf = (sh, I', J, R) ∧ v = some (.int (nI (yA T))) ∧ (C_sheet I' a (sealT T c) ∧ Sm (Fc a) I I')) := by
    refine w_X5_bindByWax_0 hA ?_
    rw [hC.1.2.1]
    refine ⟨fun z => absurd z (nI_ge h16 (by decide)), fun _ => ⟨_, ct_packet hA (by omega) hC.1.2.1, hB, _, ct_heightOf hB hP.inn (C_now hC), fun _ => ⟨_, ct_packet hA (by omega) hC.1.2.1, hB, _, ct_highest (k := 2) hB hP (C_now hC) hc hk, _, ct_raise hA (At5_5 hA).2.1 (At5_5 hA).2.2 (by omega) hC.1.1 hV.2.1, I', _, q1, I', rfl, rfl, q2, fun b j w => ?_⟩, fun z => absurd (hgt_le (k := 2) hV hc hk) z⟩⟩
    rw [q3 b j w, rsI_off (by unfold Fc at w; omega)]
  obtain ⟨I', h1, h2⟩ := rW_ex key
  exact ⟨I', e_X5_bindByWax h1, h2⟩
theorem ct_dirty_no (hA : At5 sh R a) (hC : C_sheet I a T) (h : yA T = 16) : rMet γ l m_X5_dirty [.ref a] (sh, I, J, R) (sh, I, J, R) (some (.int (-1))) := by
  refine e_X5_dirty (rW_pure (w_X5_dirty_0 hA ?_))
  rw [hC.1.2.1, h]
  exact ⟨fun z => absurd z (by decide), fun _ => ⟨rfl, rfl⟩⟩
theorem ouM_16 {P : Pk} (hP : PkV P) : ouM P < 2 ^ (2 * pN P) := mkN_lt _ _
theorem ct_dirty_ok (hA : At5 sh R a) (hV : V_sheet n T) (hC : C_sheet I a T) (h16 : yA T < 16) :
    ∃ I', rMet γ l m_X5_dirty [.ref a] (sh, I, J, R) (sh, I', J, R) (some (.int (nI (yA T)))) ∧ C_sheet I' a (soilT T) ∧ Sm (Fc a) I I' := by
  obtain ⟨hP, hN⟩ := V_now hV
  have hB := (At5_p hA (yA T) (by omega)).2
  have hB2 := (At5_p hA (yA T + 1) (by omega)).2
  have hd : yD T < 2 ^ 31 := Nat.lt_of_lt_of_le hV.2.2.2.2.1 (Nat.pow_le_pow_right (by omega) (by have := hV.2.1; omega))
  have hC2 : C_sheet (up I a 3 (nI (yD T ||| ouM (nowP T)))) a (setD T (yD T ||| ouM (nowP T))) := by
    obtain ⟨⟨h1, h2, h3, h4⟩, h5, h6, h7⟩ := hC
    refine ⟨⟨?_, ?_, ?_, ?_⟩, fun p hp => ⟨?_, ?_⟩, fun i hi => (h6 i hi).loc (fun b q1 q2 => up_ne (by omega)), fun i hi => ?_⟩
    · rw [up_at, if_neg (by omega)]; exact h1
    · rw [up_at, if_neg (by omega)]; exact h2
    · rw [up_at, if_neg (by omega)]; exact h3
    · rw [up_at, if_pos ⟨rfl, rfl⟩]; rfl
    · rw [up_at, if_neg (by omega)]; exact (h5 p hp).1
    · rw [up_at, if_neg (by omega)]; exact (h5 p hp).2
    · obtain ⟨r1, r2, r3, r4, r5⟩ := h7 i hi
      refine ⟨?_, ?_, ?_, ?_, ?_⟩
      · rw [up_at, if_neg (by omega)]; exact r1
      · rw [up_at, if_neg (by omega)]; exact r2
      · rw [up_at, if_neg (by omega)]; exact r3
      · rw [up_at, if_neg (by omega)]; exact r4
      · rw [up_at, if_neg (by omega)]; exact r5
  have hC1 : PkC (up I a 3 (nI (yD T ||| ouM (nowP T)))) (a + 9 + 6 * yA T) (nowP T) := hC2.2.2.1 (yA T) (Nat.le_refl _)
  have hL : C_sheet (tLA (up I a 3 (nI (yD T ||| ouM (nowP T)))) (a + 9 + 6 * (yA T + 1)) (nowP T) (pN (nowP T))) a (setD T (yD T ||| ouM (nowP T))) := hC2.loc (Nat.le_of_lt h16) (fun b j _ q2 => by rw [tLA_row (by have : b < a + 9 + 6 * (yA T + 1) ∨ a + 9 + 6 * (yA T + 2) ≤ b := q2; omega)])
  have key : s_X5_dirty_0 γ l a (sh, I, J, R) (fun hf v => ∃ I', hf = (sh, I', J, R) ∧ v = some (.int (nI (yA T))) ∧ (C_sheet I' a (soilT T) ∧ Sm (Fc a) I I')) := by
    refine w_X5_dirty_0 hA ?_
    rw [hC.1.2.1]
    refine ⟨fun _ => ⟨_, ct_packet hA (by omega) hC.1.2.1, hB, _, ct_outerFaces hB hP (C_now hC), ?_⟩, fun z => absurd (nI_lt h16 (by decide)) z⟩
    rw [hC.1.2.2.2, bt_or hd (ouM_31 hP), show up I a 3 (nI (yD T ||| ouM (nowP T))) a 1 = nI (yA T) from hC2.1.2.1, nI_1]
    refine ⟨vp_in_nI (by omega) (by decide), _, ?_, hB2, _, ct_packet hA (Nat.le_of_lt h16) hC2.1.2.1, hB, _, ct_copy hB2 hB (by omega) hP.inn hC1, _, _, ct_keep hA h16 hL.1.2.1, _, rfl, rfl, ?_, fun b j q => ?_⟩
    · rw [nI_clamp (by omega)]; exact (At5_p hA (yA T + 1) (by omega)).1
    · have := C_keep (k1 := 5) (k2 := 0) (k3 := 0) (k4 := 0) (k5 := 0) (Q := nowP T) hL h16 (PkC_lay hP.inn)
      rw [nI_0] at this
      exact this
    · unfold Fc at q
      rw [kpI_off (by omega) (by omega)]
      show tLA (up I a 3 (nI (yD T ||| ouM (nowP T)))) (a + 9 + 6 * (yA T + 1)) (nowP T) (pN (nowP T)) b j = I b j
      rw [tLA_row (by omega), up_at, if_neg (by omega)]
  obtain ⟨I', h1, h2⟩ := rW_ex key
  exact ⟨I', e_X5_dirty h1, h2⟩
end PIL
