/-! ===== shut twice: the class's answer ===== -/
def lkN (N : Nat) (F : Fnd) (x : En) : Nat := crF N F ^^^ (crF N F &&& onm N F x)
def Two (N : Nat) (F : Fnd) (L : List En) : Prop := ∃ x, x ∈ L ∧ ∃ y, y ∈ L ∧ (x.1.1 ||| y.1.1) &&& ckN N F = crF N F
theorem onm_14 {N : Nat} {F : Fnd} (h : N ≤ 8) (x : En) : onm N F x < 2 ^ 14 := Nat.lt_of_le_of_lt Nat.and_le_right (sk_31 N F h).2.2.2.2.1
theorem lkN_14 {N : Nat} {F : Fnd} (h : N ≤ 8) (x : En) : lkN N F x < 2 ^ 14 := by
  have h1 := (sk_31 N F h).2.2.2.2.2
  exact Nat.xor_lt_two_pow h1 (Nat.lt_of_le_of_lt Nat.and_le_left h1)
theorem lkN_bit {N : Nat} {F : Fnd} {x : En} {k : Nat} : (lkN N F x).testBit k = ((crF N F).testBit k && !(onm N F x).testBit k) := by
  unfold lkN
  rw [Nat.testBit_xor, Nat.testBit_and]
  cases (crF N F).testBit k <;> cases (onm N F x).testBit k <;> rfl
theorem two_iff {N : Nat} {F : Fnd} {L : List En} (h : N ≤ 8) : (∃ j, j < L.length ∧ sbC N F (onm N F (gE L j)) ∧ Cl (S0 N F L L.length) 14 (lkN N F (gE L j))) ↔ Two N F L := by
  have hS : ∀ z, S0 N F L L.length z → z < 2 ^ 14 := by
    rintro z ⟨j, _, h2, _⟩
    rw [← h2]; exact onm_14 h _
  constructor
  · rintro ⟨j, h1, h2, h3⟩
    rw [Cl_14 (lkN_14 h _) hS] at h3
    obtain ⟨z, ⟨k, k1, k2, k3⟩, h4⟩ := h3
    refine ⟨gE L j, gE_mem h1, gE L k, gE_mem k1, ?_⟩
    apply Nat.eq_of_testBit_eq
    intro t
    rw [Nat.testBit_and, Nat.testBit_or, Bool.and_or_distrib_right, ← Nat.testBit_and, ← Nat.testBit_and]
    show ((onm N F (gE L j)).testBit t || (onm N F (gE L k)).testBit t) = _
    have a1 := h2 t
    have a2 := k3 t
    rw [← k2] at a2 h4
    have a3 := h4 t
    rw [lkN_bit] at a3
    revert a1 a2 a3
    cases (onm N F (gE L j)).testBit t <;> cases (onm N F (gE L k)).testBit t <;> cases (crF N F).testBit t <;> simp
  · rintro ⟨x, hx, y, hy, hxy⟩
    obtain ⟨j, j1, rfl⟩ := gE_of hx
    obtain ⟨k, k1, rfl⟩ := gE_of hy
    have hb : ∀ t, ((onm N F (gE L j)).testBit t || (onm N F (gE L k)).testBit t) = (crF N F).testBit t := by
      intro t
      rw [← hxy, Nat.testBit_and, Nat.testBit_or, Bool.and_or_distrib_right, ← Nat.testBit_and, ← Nat.testBit_and]
      rfl
    refine ⟨j, j1, fun t ht => by rw [← hb, ht]; rfl, ?_⟩
    rw [Cl_14 (lkN_14 h _) hS]
    refine ⟨onm N F (gE L k), ⟨k, k1, rfl, fun t ht => by rw [← hb, ht, Bool.or_true]⟩, fun t ht => ?_⟩
    rw [lkN_bit, ← hb] at ht
    revert ht
    cases (onm N F (gE L j)).testBit t <;> cases (onm N F (gE L k)).testBit t <;> simp
section TWI2
variable {γ : rG} {l : Launch} {sh : Nat × (Nat → Nat) × (Nat → Nat)} {I : Nat → Nat → Int32} {J : Nat → Nat → Int64} {R : Nat → Nat → Option Nat} {a N : Nat} {F : Fnd}
theorem ct_collectWithin (hA : At0 sh R a) (h : 2 ≤ N ∧ N ≤ 8) (hF : FdC I a N F) (hO : OuR I J (a + 1) N) : ∃ I', rMet γ l m_X0_collectWithin [.ref a] (sh, I, J, R) (sh, I', J, R) none ∧ (WS I' (a + 25) (Cl (S0 N F (PLb N 4) (PLb N 4).length) 14) ∧ Sm (fun b _ => b = a + 25) I I') := by
  obtain ⟨b1, b2, b3, b4, b5, b6⟩ := sk_31 N F h.2
  have hl := PLb_1300 h
  have loop : ∀ j i I1, i + j = (PLb N 4).length → WS I1 (a + 25) (S0 N F (PLb N 4) i) → Sm (fun b _ => b = a + 25) I I1 → s_X0_collectWithin_10 γ l a (nI i) (sh, I1, J, R) (fun hf v => ∃ I', hf = (sh, I', J, R) ∧ v = none ∧ (WS I' (a + 25) (Cl (S0 N F (PLb N 4) (PLb N 4).length) 14) ∧ Sm (fun b _ => b = a + 25) I I')) := by
    intro j
    induction j with
    | zero =>
      intro i I1 hi hW hS
      have ei : i = (PLb N 4).length := by omega
      rw [ei] at hW ⊢
      refine w_X0_collectWithin_10 hA ⟨fun _ => ?_, fun z => absurd ?_ z⟩
      · refine cw_71 (I := I) hA (fun I2 h2 hS2 => ⟨I2, rfl, rfl, h2, hS2⟩) 5 0 I1 (by omega) (fun w r hw hr => ?_) hS
        rw [hW w r hw hr, Cl_0]
      · rw [hS _ _ (by omega), hO.2.2.1]; exact nI_le (Nat.le_refl _) (by omega)
    | succ j ih =>
      intro i I1 hi hW hS
      have hi' : i < (PLb N 4).length := by omega
      obtain ⟨B, d', _, hEV⟩ := PLb_V h 4 (Nat.le_refl _) _ (gE_mem hi')
      have hb := hEV.1.b
      have hJ := (hO.2.1 i hi').1
      rw [Nat.zero_add] at hJ
      have c1 := ct_creasesOf (γ := γ) (l := l) (I := I1) (R := R) (At0_13 hA).2 (show i < 1300 by omega) hb.1 hb.2.1 hJ
      have ho := onm_14 (F := F) h.2 (gE (PLb N 4) i)
      have eo : nI (gE (PLb N 4) i).1.1 &&& nI (ckN N F) = nI (onm N F (gE (PLb N 4) i)) := bt_and (by omega) (by omega)
      refine w_X0_collectWithin_10 hA ⟨fun z => absurd z (by rw [hS _ _ (by omega), hO.2.2.1]; exact nI_ge (by omega) (by omega)), fun _ => ⟨_, c1, ?_⟩⟩
      rw [hS a 1 (by omega), hS a 2 (by omega), hF.2.1, hF.2.2.1, eo, bt_not (by omega) (by omega), nI_1]
      have step : ∀ y, S0 N F (PLb N 4) (i + 1) y ↔ (S0 N F (PLb N 4) i y ∨ (onm N F (gE (PLb N 4) i) = y ∧ sbC N F y)) := by
        intro y
        constructor
        · rintro ⟨k, k1, k2, k3⟩
          by_cases e : k = i
          · subst e; exact Or.inr ⟨k2, k3⟩
          · exact Or.inl ⟨k, by omega, k2, k3⟩
        · rintro (⟨k, k1, k2, k3⟩ | ⟨k2, k3⟩)
          · exact ⟨k, by omega, k2, k3⟩
          · exact ⟨i, by omega, k2, k3⟩
      refine ⟨fun z => ?_, fun z => ih (i + 1) I1 (by omega) (fun w r hw hr => ?_) hS⟩
      · generalize hon : onm N F (gE (PLb N 4) i) = on at ho step z
        have e5 : nI on >>> ((5 : Int32) &&& 31) = nI (on / 32) := by rw [show (5 : Int32) = nI 5 from rfl, bt_shr (by omega) (by omega)]
        have e31 : nI on &&& 31 = nI (on % 32) := by rw [pk_andN (by omega) 5 (by decide)]
        rw [e5, e31, nI_clamp (by omega)]
        have hin : vp_in (nI (on / 32)) 512 := vp_in_nI (by omega) (by decide)
        refine ⟨hin, hin, ih (i + 1) _ (by omega) (fun w r hw hr => ?_) (hS.up rfl)⟩
        rw [step]
        by_cases e : w = on / 32
        · subst e
          rw [up_at, if_pos ⟨rfl, rfl⟩, wb_or, wb_sh (by omega), Bool.or_eq_true, hW _ r hw hr, decide_eq_true_eq]
          constructor
          · rintro (y | y)
            · exact Or.inl y
            · exact Or.inr ⟨by omega, by rw [show 32 * (on / 32) + r = on by omega]; exact z⟩
          · rintro (y | ⟨y, _⟩)
            · exact Or.inl y
            · exact Or.inr (by omega)
        · rw [up_at, if_neg (fun y => e y.2), hW w r hw hr]
          constructor
          · exact Or.inl
          · rintro (y | ⟨y, _⟩)
            · exact y
            · exact absurd (show w = on / 32 by omega) e
      · rw [step, hW w r hw hr]
        constructor
        · exact Or.inl
        · rintro (y | ⟨y1, y2⟩)
          · exact y
          · rw [← y1] at y2
            exact absurd y2 z
  have hfill := ct_fill (γ := γ) (l := l) (I := I) (J := J) (R := R) (v := 0) (At0_15 hA).2.1 (At0_15 hA).2.2 (by decide)
  have fl : ∀ w, w < 512 → fillN I (a + 25) 0 512 (a + 25) w = 0 := fun w hw => by unfold fillN; rw [if_pos ⟨rfl, hw⟩]
  obtain ⟨I', q1, q2⟩ := rW_ex (w_X0_collectWithin_0 (γ := γ) (l := l) hA ⟨_, hfill, loop (PLb N 4).length 0 _ (by omega) (fun w r hw hr => by
    rw [fl w hw, wb_0]
    constructor
    · intro y; exact absurd y (by decide)
    · rintro ⟨k, k1, _⟩; omega) (fun b j z => by unfold fillN; rw [if_neg (fun y => z y.1)])⟩)
  exact ⟨I', e_X0_collectWithin q1, q2⟩
theorem ct_isShutTwice (hA : At0 sh R a) (h : 2 ≤ N ∧ N ≤ 8) (hF : FdC I a N F) (hO : OuR I J (a + 1) N) : ∃ I', rMet γ l m_X0_isShutTwice [.ref a] (sh, I, J, R) (sh, I', J, R) (some (.int (bz (Two N F (PLb N 4))))) ∧ Sm (fun b _ => b = a + 25) I I' := by
  obtain ⟨b1, b2, b3, b4, b5, b6⟩ := sk_31 N F h.2
  have hl := PLb_1300 h
  obtain ⟨I1, m1, m2, m3⟩ := ct_collectWithin (γ := γ) (l := l) hA h hF hO
  have loop : ∀ j i, i + j = (PLb N 4).length → (∀ k, k < i → ¬ (sbC N F (onm N F (gE (PLb N 4) k)) ∧ Cl (S0 N F (PLb N 4) (PLb N 4).length) 14 (lkN N F (gE (PLb N 4) k)))) → s_X0_isShutTwice_6 γ l a (nI i) (sh, I1, J, R) (fun hf v => hf = (sh, I1, J, R) ∧ v = some (.int (bz (Two N F (PLb N 4))))) := by
    intro j
    induction j with
    | zero =>
      intro i hi hn
      refine w_X0_isShutTwice_6 hA ⟨fun _ => ⟨rfl, ?_⟩, fun z => absurd ?_ z⟩
      · rw [bz_f (fun y => ?_)]
        rw [← two_iff h.2] at y
        obtain ⟨k, k1, k2⟩ := y
        exact hn k (by omega) k2
      · rw [m3 _ _ (by omega), hO.2.2.1]; exact nI_le (by omega) (by omega)
    | succ j ih =>
      intro i hi hn
      have hi' : i < (PLb N 4).length := by omega
      obtain ⟨B, d', _, hEV⟩ := PLb_V h 4 (Nat.le_refl _) _ (gE_mem hi')
      have hb := hEV.1.b
      have hJ := (hO.2.1 i hi').1
      rw [Nat.zero_add] at hJ
      have c1 := ct_creasesOf (γ := γ) (l := l) (I := I1) (R := R) (At0_13 hA).2 (show i < 1300 by omega) hb.1 hb.2.1 hJ
      have ho := onm_14 (F := F) h.2 (gE (PLb N 4) i)
      have hlk := lkN_14 (F := F) h.2 (gE (PLb N 4) i)
      have eo : nI (gE (PLb N 4) i).1.1 &&& nI (ckN N F) = nI (onm N F (gE (PLb N 4) i)) := bt_and (by omega) (by omega)
      have el : nI (crF N F) &&& (nI (onm N F (gE (PLb N 4) i)) ^^^ -1) = nI (lkN N F (gE (PLb N 4) i)) := bt_dif (by omega) (by omega)
      refine w_X0_isShutTwice_6 hA ⟨fun z => absurd z (by rw [m3 _ _ (by omega), hO.2.2.1]; exact nI_ge (by omega) (by omega)), fun _ => ⟨_, c1, ?_⟩⟩
      rw [m3 a 1 (by omega), m3 a 2 (by omega), hF.2.1, hF.2.2.1, eo, el, bt_not (by omega) (by omega), nI_1]
      have e5 : nI (lkN N F (gE (PLb N 4) i)) >>> ((5 : Int32) &&& 31) = nI (lkN N F (gE (PLb N 4) i) / 32) := by rw [show (5 : Int32) = nI 5 from rfl, bt_shr (by omega) (by omega)]
      have e31 : nI (lkN N F (gE (PLb N 4) i)) &&& 31 = nI (lkN N F (gE (PLb N 4) i) % 32) := by rw [pk_andN (by omega) 5 (by decide)]
      rw [e5, e31, nI_clamp (by omega), wb_get (by omega), m2 _ _ (by omega) (by omega), Nat.div_add_mod]
      refine ⟨fun z => ⟨vp_in_nI (by omega) (by decide), fun y => ⟨rfl, ?_⟩, fun y => ih (i + 1) (by omega) (fun k hk => ?_)⟩, fun z => ih (i + 1) (by omega) (fun k hk => ?_)⟩
      · rw [bz_t ((two_iff h.2).mp ⟨i, hi', z, y⟩)]
      · by_cases e : k = i
        · subst e; exact fun w => y w.2
        · exact hn k (by omega)
      · by_cases e : k = i
        · subst e; exact fun w => z w.1
        · exact hn k (by omega)
  exact ⟨I1, e_X0_isShutTwice (rW_pure (w_X0_isShutTwice_0 hA ⟨I1, m1, loop (PLb N 4).length 0 (by omega) (fun k hk => absurd hk (by omega))⟩)), m3⟩
end TWI2
