/-! ===== fold, tuck ===== -/
theorem or_dm (x y k : Nat) : (x ||| y) / 2 ^ k % 4 = (x / 2 ^ k % 4) ||| (y / 2 ^ k % 4) := by
  apply Nat.eq_of_testBit_eq
  intro i
  rw [show (4 : Nat) = 2 ^ 2 from rfl]
  simp only [Nat.testBit_or, Nat.testBit_mod_two_pow, Nat.testBit_div_two_pow]
  cases decide (i < 2) <;> simp
def setC (T : Sht) (c : Nat) : Sht := (yN T, yA T, yP T, c, yD T, yS T, yW T, yK T)
def nowP (T : Sht) : Pk := yP T (yA T)
def turnT (T : Sht) (k x : Nat) (left : Bool) (lev : Nat) : Sht := addAct (setC T (yC T ||| crN (nowP T) x left (decide (0 < lev)) (pN (nowP T) - 1))) (turnP (nowP T) x left lev) (k, tBy (nowP T) (nI x) left (pN (nowP T)), x, 0, 0)
theorem tBy_le {P : Pk} {x : Int32} {left : Bool} : ∀ k, tBy P x left k ≤ k := by
  intro k
  induction k with
  | zero => exact Nat.le_refl 0
  | succ k ih => simp only [tBy]; split <;> omega
section TAT
variable {γ : rG} {l : Launch} {sh : Nat × (Nat → Nat) × (Nat → Nat)} {I : Nat → Nat → Int32} {J : Nat → Nat → Int64} {R : Nat → Nat → Option Nat} {a m n : Nat} {T : Sht} {left : Bool}
theorem V_now (hV : V_sheet n T) : PkV (nowP T) ∧ pN (nowP T) = yN T := hV.2.2.2.2.2.1 _ (Nat.le_refl _)
theorem C_now (hC : C_sheet I a T) : PkC I (a + 9 + 6 * yA T) (nowP T) := hC.2.2.1 _ (Nat.le_refl _)
theorem M_now (hC : M_sheet I m T) : PkM I m (yA T) (nowP T) := hC.2.2.2.1 _ (Nat.le_refl _)
theorem V_turn {k x lev : Nat} (hV : V_sheet n T) (h16 : yA T < 16) (hx1 : 1 ≤ x) (hx : x < pW (nowP T)) (hk : k < 6) : V_sheet n (turnT T k x left lev) := by
  obtain ⟨hP, hN⟩ := V_now hV
  have hV2 : V_sheet n (setC T (yC T ||| crN (nowP T) x left (decide (0 < lev)) (pN (nowP T) - 1))) := by
    obtain ⟨h1, h2, h3, h4, h5, h6, h7, h8⟩ := hV
    refine ⟨h1, h2, h3, ?_, h5, h6, h7, h8⟩
    show yC T ||| crN (nowP T) x left (decide (0 < lev)) (pN (nowP T) - 1) < 2 ^ (2 * (yN T - 1))
    have := crN_lt (P := nowP T) (x := x) (left := left) (over := decide (0 < lev)) (pN (nowP T) - 1)
    rw [hN] at this ⊢
    exact Nat.or_lt_two_pow h4 this
  have h8 := hP.2.1
  have hw := hP.2.2.2.1
  refine V_keep hV2 h16 (turn_V hP hx1 hx) hN ⟨hk, ?_, ?_, Nat.zero_le _, Nat.two_pow_pos 8⟩
  · have := tBy_le (P := nowP T) (x := nI x) (left := left) (pN (nowP T))
    show tBy (nowP T) (nI x) left (pN (nowP T)) ≤ 8
    omega
  · show x ≤ 8
    omega
theorem ct_turnAt_no {kd x lv : Int32} (hA : At5 sh R a) (hV : V_sheet n T) (hC : C_sheet I a T) (h : yA T = 16 ∨ x < 1 ∨ ¬ x < nI (pW (nowP T))) : rMet γ l m_X5_turnAt [.ref a, .int kd, .int x, .int (nz left), .int lv] (sh, I, J, R) (sh, I, J, R) (some (.int (-1))) := by
  have h16 := hV.2.2.1
  have e1 := (C_now hC).2.1
  refine e_X5_turnAt (rW_pure (w_X5_turnAt_0 hA ⟨_, ct_packet hA h16 hC.1.2.1, (At5_p hA _ (by omega)).2, ?_⟩))
  rw [e1, hC.1.2.1]
  refine ⟨fun _ => ⟨rfl, rfl⟩, fun z1 => ⟨fun _ => ⟨rfl, rfl⟩, fun z2 => ⟨fun z3 => ?_, fun _ => ⟨rfl, rfl⟩⟩⟩⟩
  exfalso
  rcases h with h | h | h
  · rw [h] at z1; exact z1 (by decide)
  · exact z2 h
  · exact h z3
theorem C_turnT {k x lev : Nat} (hV : V_sheet n T) (hC : C_sheet I a T) (h16 : yA T < 16) (hx1 : 1 ≤ x) (hx : x < pW (nowP T)) : C_sheet (kpI (up (tLA I (a + 9 + 6 * (yA T + 1)) (turnP (nowP T) x left lev) (pN (nowP T))) a 2 (nI (yC T) ||| crM (nowP T) x left (decide (0 < lev)) (pN (nowP T) - 1))) a 4 1 (yA T) (nI k) (nI (tBy (nowP T) (nI x) left (pN (nowP T)))) (nI x) 0 0) a (turnT T k x left lev) ∧ Sm (Fc a) I (kpI (up (tLA I (a + 9 + 6 * (yA T + 1)) (turnP (nowP T) x left lev) (pN (nowP T))) a 2 (nI (yC T) ||| crM (nowP T) x left (decide (0 < lev)) (pN (nowP T) - 1))) a 4 1 (yA T) (nI k) (nI (tBy (nowP T) (nI x) left (pN (nowP T)))) (nI x) 0 0) := by
  obtain ⟨hP, hN⟩ := V_now hV
  have h8 := hP.2.1
  have hcl : yC T < 2 ^ 31 := Nat.lt_of_lt_of_le hV.2.2.2.1 (Nat.pow_le_pow_right (by omega) (by have := hV.2.1; omega))
  have hcr : crN (nowP T) x left (decide (0 < lev)) (pN (nowP T) - 1) < 2 ^ 31 := Nat.lt_of_lt_of_le (crN_lt _) (Nat.pow_le_pow_right (by omega) (by omega))
  rw [crM_N _ (by omega), bt_or hcl hcr]
  have hrow : ∀ b, b < a + 9 + 6 * (yA T + 1) ∨ a + 9 + 6 * (yA T + 2) ≤ b → tLA I (a + 9 + 6 * (yA T + 1)) (turnP (nowP T) x left lev) (pN (nowP T)) b = I b := fun b hb => tLA_row (by omega)
  have hC2 : C_sheet (up (tLA I (a + 9 + 6 * (yA T + 1)) (turnP (nowP T) x left lev) (pN (nowP T))) a 2 (nI (yC T ||| crN (nowP T) x left (decide (0 < lev)) (pN (nowP T) - 1)))) a (setC T (yC T ||| crN (nowP T) x left (decide (0 < lev)) (pN (nowP T) - 1))) := by
    have hL : C_sheet (tLA I (a + 9 + 6 * (yA T + 1)) (turnP (nowP T) x left lev) (pN (nowP T))) a T := hC.loc (by omega) (fun b j _ q2 => by rw [hrow b q2])
    obtain ⟨⟨h1, h2, h3, h4⟩, h5, h6, h7⟩ := hL
    refine ⟨⟨?_, ?_, ?_, ?_⟩, fun p hp => ⟨?_, ?_⟩, fun i hi => ?_, fun i hi => ?_⟩
    · rw [up_at, if_neg (by omega)]; exact h1
    · rw [up_at, if_neg (by omega)]; exact h2
    · rw [up_at, if_pos ⟨rfl, rfl⟩]; rfl
    · rw [up_at, if_neg (by omega)]; exact h4
    · rw [up_at, if_neg (by omega)]; exact (h5 p hp).1
    · rw [up_at, if_neg (by omega)]; exact (h5 p hp).2
    · exact (h6 i hi).loc (fun b q1 q2 => up_ne (by omega))
    · obtain ⟨r1, r2, r3, r4, r5⟩ := h7 i hi
      refine ⟨?_, ?_, ?_, ?_, ?_⟩
      · rw [up_at, if_neg (by omega)]; exact r1
      · rw [up_at, if_neg (by omega)]; exact r2
      · rw [up_at, if_neg (by omega)]; exact r3
      · rw [up_at, if_neg (by omega)]; exact r4
      · rw [up_at, if_neg (by omega)]; exact r5
  have hQ : PkC (up (tLA I (a + 9 + 6 * (yA T + 1)) (turnP (nowP T) x left lev) (pN (nowP T))) a 2 (nI (yC T ||| crN (nowP T) x left (decide (0 < lev)) (pN (nowP T) - 1)))) (a + 9 + 6 * (yA T + 1)) (turnP (nowP T) x left lev) :=
    (PkC_lay (I := I) (a := a + 9 + 6 * (yA T + 1)) (turn_V (left := left) (lev := lev) hP hx1 hx).inn).loc (fun b q1 q2 => up_ne (by omega))
  refine ⟨?_, fun b j q => ?_⟩
  · have := C_keep (k1 := k) (k2 := tBy (nowP T) (nI x) left (pN (nowP T))) (k3 := x) (k4 := 0) (k5 := 0) hC2 h16 hQ
    rw [nI_0] at this
    exact this
  · unfold Fc at q
    rw [kpI_off (by omega) (by omega), up_at, if_neg (by omega), hrow b (by omega)]
theorem ct_turnAt_ok {k x lev : Nat} (hA : At5 sh R a) (hV : V_sheet n T) (hC : C_sheet I a T) (h16 : yA T < 16) (hx1 : 1 ≤ x) (hx : x < pW (nowP T)) (hl : lev ≤ 8) (hk : k < 6) (hp : k = 1 → ¬ Pass (turnP (nowP T) x left lev)) :
    ∃ I', rMet γ l m_X5_turnAt [.ref a, .int (nI k), .int (nI x), .int (nz left), .int (nI lev)] (sh, I, J, R) (sh, I', J, R) (some (.int (nI (yA T)))) ∧ C_sheet I' a (turnT T k x left lev) ∧ Sm (Fc a) I I' := by
  obtain ⟨hP, hN⟩ := V_now hV
  have hw := hP.2.2.2.1
  have e1 := (C_now hC).2.1
  have hB := (At5_p hA (yA T) (by omega)).2
  have hB2 := (At5_p hA (yA T + 1) (by omega)).2
  have hC2 : PkC (tLA I (a + 9 + 6 * (yA T + 1)) (turnP (nowP T) x left lev) (pN (nowP T))) (a + 9 + 6 * (yA T + 1)) (turnP (nowP T) x left lev) := PkC_lay (turn_V (left := left) (lev := lev) hP hx1 hx).inn
  have hC1 : PkC (tLA I (a + 9 + 6 * (yA T + 1)) (turnP (nowP T) x left lev) (pN (nowP T))) (a + 9 + 6 * yA T) (nowP T) := (C_now hC).loc (fun b q1 q2 => tLA_row (by omega))
  have o1 : ∀ j, tLA I (a + 9 + 6 * (yA T + 1)) (turnP (nowP T) x left lev) (pN (nowP T)) a j = I a j := fun j => by rw [tLA_row (by omega)]
  have fin := C_turnT (k := k) (left := left) (lev := lev) hV hC h16 hx1 hx
  have key : s_X5_turnAt_0 γ l a (nI k) (nI x) (nz left) (nI lev) (sh, I, J, R) (fun hf v => ∃ I', hf = (sh, I', J, R) ∧ v = some (.int (nI (yA T))) ∧ (C_sheet I' a (turnT T k x left lev) ∧ Sm (Fc a) I I')) := by
    have b89 : s_X5_turnAt_89 γ l a (nI k) (nI x) (nz left) (a + 9 + 6 * yA T) (nz (decide (0 < lev))) (nI x) (a + 9 + 6 * yA T) (nI (yC T)) a (sh, tLA I (a + 9 + 6 * (yA T + 1)) (turnP (nowP T) x left lev) (pN (nowP T)), J, R) (fun hf v => ∃ I', hf = (sh, I', J, R) ∧ v = some (.int (nI (yA T))) ∧ (C_sheet I' a (turnT T k x left lev) ∧ Sm (Fc a) I I')) := by
      refine w_X5_turnAt_89 hA hB hB hA ⟨_, ct_creasesAt (left := left) hB hP hC1 hx1 (by omega), _, ct_turnedBy hB hP.2.1 (hC1.loc (fun b q1 q2 => up_ne (by omega))), _, _, ct_keep hA h16 ?_, _, rfl, rfl, fin⟩
      rw [up_at, if_neg (by omega), o1]; exact hC.1.2.1
    have b71 : s_X5_turnAt_71 γ l a (nI k) (nI x) (nz left) (nI lev) (a + 9 + 6 * yA T) (sh, tLA I (a + 9 + 6 * (yA T + 1)) (turnP (nowP T) x left lev) (pN (nowP T)), J, R) (fun hf v => ∃ I', hf = (sh, I', J, R) ∧ v = some (.int (nI (yA T))) ∧ (C_sheet I' a (turnT T k x left lev) ∧ Sm (Fc a) I I')) := by
      refine w_X5_turnAt_71 hA hB ?_
      rw [o1, hC.1.2.2.1]
      refine ⟨fun z => ?_, fun z => ?_⟩
      · have : lev = 0 := by
          rcases Nat.eq_zero_or_pos lev with q | q
          · exact q
          · exact absurd z (nI_nle q (by omega))
        rw [show decide (0 < lev) = false by simp [this]] at b89
        exact b89
      · have : 0 < lev := by
          rcases Nat.eq_zero_or_pos lev with q | q
          · rw [q] at z; exact absurd (by decide) z
          · exact q
        rw [show decide (0 < lev) = true by simp [this]] at b89
        exact b89
    refine w_X5_turnAt_0 hA ⟨_, ct_packet hA (by omega) hC.1.2.1, hB, ?_⟩
    rw [e1, hC.1.2.1, nI_1]
    refine ⟨fun z => absurd z (nI_ge h16 (by decide)), fun _ => ⟨fun z => absurd z (nI_nlt hx1 (by omega)), fun _ => ⟨fun _ => ⟨vp_in_nI (by omega) (by decide), _, ?_, hB2, _, ct_turn hB2 hB (by omega) hP (C_now hC) hx1 hx hl, ?_, fun _ => b71⟩, fun z => absurd (nI_lt hx (by omega)) z⟩⟩⟩
    · rw [nI_clamp (by omega)]; exact (At5_p hA (yA T + 1) (by omega)).1
    · intro z
      have hk1 : k = 1 := by rw [show (1 : Int32) = nI 1 by decide, nI_eq (by omega) (by decide)] at z; exact z
      refine ⟨_, ct_passesThrough hB2 (turn_V hP hx1 hx) hC2, fun _ => b71, fun y => absurd ?_ y⟩
      rw [bz_0]; exact hp hk1
  obtain ⟨I', h1, h2⟩ := rW_ex key
  exact ⟨I', e_X5_turnAt h1, h2⟩
theorem ct_turnAt_cant {x lev : Nat} (hA : At5 sh R a) (hV : V_sheet n T) (hC : C_sheet I a T) (h16 : yA T < 16) (hx1 : 1 ≤ x) (hx : x < pW (nowP T)) (hl : lev ≤ 8) (hp : Pass (turnP (nowP T) x left lev)) :
    ∃ I', rMet γ l m_X5_turnAt [.ref a, .int (nI 1), .int (nI x), .int (nz left), .int (nI lev)] (sh, I, J, R) (sh, I', J, R) (some (.int (-2))) ∧ C_sheet I' a T ∧ Sm (Fc a) I I' := by
  obtain ⟨hP, hN⟩ := V_now hV
  have hw := hP.2.2.2.1
  have e1 := (C_now hC).2.1
  have hB := (At5_p hA (yA T) (by omega)).2
  have hB2 := (At5_p hA (yA T + 1) (by omega)).2
  have hC2 : PkC (tLA I (a + 9 + 6 * (yA T + 1)) (turnP (nowP T) x left lev) (pN (nowP T))) (a + 9 + 6 * (yA T + 1)) (turnP (nowP T) x left lev) := PkC_lay (turn_V (left := left) (lev := lev) hP hx1 hx).inn
  have key : s_X5_turnAt_0 γ l a (nI 1) (nI x) (nz left) (nI lev) (sh, I, J, R) (fun hf v => ∃ I', hf = (sh, I', J, R) ∧ v = some (.int (-2)) ∧ (C_sheet I' a T ∧ Sm (Fc a) I I')) := by
    refine w_X5_turnAt_0 hA ⟨_, ct_packet hA (by omega) hC.1.2.1, hB, ?_⟩
    rw [e1, hC.1.2.1, nI_1]
    refine ⟨fun z => absurd z (nI_ge h16 (by decide)), fun _ => ⟨fun z => absurd z (nI_nlt hx1 (by omega)), fun _ => ⟨fun _ => ⟨vp_in_nI (by omega) (by decide), _, ?_, hB2, _, ct_turn hB2 hB (by omega) hP (C_now hC) hx1 hx hl, fun _ => ?_, fun z => absurd (by decide) z⟩, fun z => absurd (nI_lt hx (by omega)) z⟩⟩⟩
    · rw [nI_clamp (by omega)]; exact (At5_p hA (yA T + 1) (by omega)).1
    · refine ⟨_, ct_passesThrough hB2 (turn_V hP hx1 hx) hC2, fun y => absurd hp (bz_0.mp y), fun _ => ⟨_, rfl, rfl, hC.loc (by omega) (fun b j _ q2 => by rw [tLA_row (by omega)]), fun b j q => ?_⟩⟩
      unfold Fc at q
      rw [tLA_row (by omega)]
  obtain ⟨I', h1, h2⟩ := rW_ex key
  exact ⟨I', e_X5_turnAt h1, h2⟩
/-! the model -/
def lvI (I : Nat → Nat → Int32) (m : Nat) (x : Int32) (k : Nat) : Nat → Nat → Int32 := fun b j => if b = m + 29 ∧ j < k then I b j ||| ((x >>> ((2 * nI j) &&& 31)) &&& 3) else I b j
theorem leaves_loop {x : Int32} (hA : At9 sh R m) : ∀ j k, k + j = 7 → s_X9_leaves_2 γ l m x (nI k) (sh, lvI I m x k, J, R) (fun hf v => hf = (sh, lvI I m x 7, J, R) ∧ v = none) := by
  intro j
  induction j with
  | zero =>
    intro k hk
    have e : k = 7 := by omega
    subst e
    exact w_X9_leaves_2 hA ⟨fun _ => ⟨rfl, rfl⟩, fun z => absurd (by decide) z⟩
  | succ j ih =>
    intro k hk
    have hv : vp_in (nI k) 8 := vp_in_nI (by omega) (by decide)
    refine w_X9_leaves_2 hA ⟨fun z => absurd z (nI_ge (show k < 7 by omega) (by decide)), fun _ => ⟨hv, hv, ?_⟩⟩
    have e : up (lvI I m x k) (m + 29) k (lvI I m x k (m + 29) k ||| ((x >>> ((2 * nI k) &&& 31)) &&& 3)) = lvI I m x (k + 1) := by
      funext b t
      simp only [up_at, lvI]
      by_cases h1 : b = m + 29 ∧ t = k
      · rw [if_pos h1, if_neg (by omega), if_pos (by omega), h1.1, h1.2]
      · rw [if_neg h1]
        by_cases h2 : b = m + 29 ∧ t < k
        · rw [if_pos h2, if_pos (by omega)]
        · rw [if_neg h2, if_neg (by omega)]
    rw [nI_clamp (by omega), e, nI_1]
    exact ih (k + 1) (by omega)
theorem ct_leaves {x : Int32} (hA : At9 sh R m) : rMet γ l m_X9_leaves [.ref m, .int x] (sh, I, J, R) (sh, lvI I m x 7, J, R) none := by
  have lp := leaves_loop (γ := γ) (l := l) (I := I) (J := J) (x := x) hA 7 0 (by omega)
  have e : lvI I m x 0 = I := by funext b j; unfold lvI; rw [if_neg (by omega)]
  rw [e] at lp
  exact e_X9_leaves (rW_pure (w_X9_leaves_0 hA lp))
theorem M_turnT {k x lev : Nat} {I1 : Nat → Nat → Int32} (hA : At9 sh R m) (hV : V_sheet n T) (hC : M_sheet I m T) (h16 : yA T < 16) (hx1 : 1 ≤ x) (hx : x < pW (nowP T)) (hM : PkM I1 m (yA T + 1) (turnP (nowP T) x left lev)) (hS : Sm (Ft m (yA T + 1)) I I1) :
    ∃ I4 I8, rMet γ l m_X9_leaves [.ref m, .int (crM (nowP T) x left (decide (0 < lev)) (pN (nowP T) - 1))] (sh, I1, J, R) (sh, I4, J, R) none ∧ rMet γ l m_X9_turnedBy [.ref m, .int (nI x), .int (nz left)] (sh, I4, J, R) (sh, I4, J, R) (some (.int (nI (tBy (nowP T) (nI x) left (pN (nowP T)))))) ∧ rMet γ l m_X9_acted [.ref m, .int (nI k), .int (nI (tBy (nowP T) (nI x) left (pN (nowP T)))), .int (nI x), .int 0, .int 0] (sh, I4, J, R) (sh, I8, J, R) (some (.int (nI (yA T)))) ∧ M_sheet I8 m (turnT T k x left lev) ∧ Sm (Fm m) I I8 := by
  obtain ⟨hP, hN⟩ := V_now hV
  have h8 := hP.2.1
  have hw := hP.2.2.2.1
  have hcl : yC T < 2 ^ 31 := Nat.lt_of_lt_of_le hV.2.2.2.1 (Nat.pow_le_pow_right (by omega) (by have := hV.2.1; omega))
  have hcr : crN (nowP T) x left (decide (0 < lev)) (pN (nowP T) - 1) < 2 ^ 14 := Nat.lt_of_lt_of_le (crN_lt _) (Nat.pow_le_pow_right (by omega) (by omega))
  rw [crM_N _ (by omega)]
  generalize hc0 : crN (nowP T) x left (decide (0 < lev)) (pN (nowP T) - 1) = c0 at hcr
  have off : ∀ b j, b ≠ m + 29 → lvI I1 m (nI c0) 7 b j = I1 b j := fun b j hb => by unfold lvI; rw [if_neg (by omega)]
  have hL : M_sheet I1 m T := hC.loc hV (fun b j _ q2 => hS b j q2)
  have hL2 : M_sheet (lvI I1 m (nI c0) 7) m (setC T (yC T ||| c0)) := by
    obtain ⟨⟨h1, h2⟩, h5, h3, h6, h7⟩ := hL
    refine ⟨⟨(off _ _ (by omega)).trans h1, (off _ _ (by omega)).trans h2⟩, fun i hi => ⟨?_, (off _ _ (by omega)).trans (h5 i hi).2.1, (off _ _ (by omega)).trans (h5 i hi).2.2⟩, fun f hf => (off _ _ (by omega)).trans (h3 f hf), fun i hi => ?_, fun i hi => ?_⟩
    · show lvI I1 m (nI c0) 7 (m + 29) i = nI ((yC T ||| c0) / 2 ^ (2 * i) % 4)
      rw [or_dm]
      unfold lvI
      by_cases h : i < 7
      · rw [if_pos ⟨rfl, h⟩, (h5 i hi).1, show (2 : Int32) = nI 2 by decide, pk_mul, bt_two (by omega) (by omega), bt_or]
        · have := Nat.mod_lt (yC T / 2 ^ (2 * i)) (show 4 > 0 by omega); omega
        · have := Nat.mod_lt (c0 / 2 ^ (2 * i)) (show 4 > 0 by omega); omega
      · have e : i = 7 := by omega
        subst e
        rw [if_neg (by omega), (h5 7 hi).1, show c0 / 2 ^ (2 * 7) = 0 from Nat.div_eq_of_lt hcr]
        simp
    · exact (h6 i hi).loc (by have := (hV.2.2.2.2.2.1 i hi).2; have := hV.2.1; omega) (off _ _ (by omega)) (off _ _ (by omega)) (fun b j q1 _ _ => off b j (by omega))
    · obtain ⟨r1, r2, r3, r4, r5⟩ := h7 i hi
      exact ⟨(off _ _ (by omega)).trans r1, (off _ _ (by omega)).trans r2, (off _ _ (by omega)).trans r3, (off _ _ (by omega)).trans r4, (off _ _ (by omega)).trans r5⟩
  have hM2 : PkM (lvI I1 m (nI c0) 7) m (yA T + 1) (turnP (nowP T) x left lev) := hM.loc h8 (off _ _ (by omega)) (off _ _ (by omega)) (fun b j q1 _ _ => off b j (by omega))
  have h48 : lvI I1 m (nI c0) 7 m 48 = nI (yA T) := hL2.1.2
  have hM3 : PkM (lvI I1 m (nI c0) 7) m (yA T) (nowP T) := hL2.2.2.2.1 (yA T) (Nat.le_refl _)
  refine ⟨_, _, ct_leaves hA, ct_mturnedBy hA (by omega) (by omega) (fun r hr => (hP.b r hr).1) h8 hM3 h48, ct_acted hA h16 h48, ?_, fun b j q => ?_⟩
  · have := M_keep (k1 := k) (k2 := tBy (nowP T) (nI x) left (pN (nowP T))) (k3 := x) (k4 := 0) (k5 := 0) hL2 hM2 h8 (fun i hi => by have := (hV.2.2.2.2.2.1 i hi).2; have := hV.2.1; show pN (yP T i) ≤ 8; omega)
    rw [nI_0] at this
    unfold turnT
    rw [hc0]
    exact this
  · unfold Fm at q
    rw [kpI_off (by omega) (by omega), off b j (by omega), hS b j (by unfold Ft; omega)]
end TAT
