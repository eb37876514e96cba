/-! ===== the class's outcomes: turnOn ===== -/
theorem kD_sub {N M K x sd g : Nat} {t : Nat × Nat × Nat} : ∀ n, g < n → t ∈ kid1 N M K x sd g → t ∈ kD N M K x sd n := by
  intro n
  induction n with
  | zero => intro h; omega
  | succ n ih =>
    intro h ht
    simp only [kD]
    by_cases z : g = n
    · subst z; exact List.mem_append_right _ ht
    · exact List.mem_append_left _ (ih (by omega) ht)
theorem kS_sub {N M K x sd : Nat} {t : Nat × Nat × Nat} : ∀ n, sd < n → t ∈ kD N M K x sd (mosK N K + 1) → t ∈ kS N M K x n := by
  intro n
  induction n with
  | zero => intro h; omega
  | succ n ih =>
    intro h ht
    simp only [kS]
    by_cases z : sd = n
    · subst z; exact List.mem_append_right _ ht
    · exact List.mem_append_left _ (ih (by omega) ht)
theorem kX_sub {N M K x : Nat} {t : Nat × Nat × Nat} : ∀ n, x < n → t ∈ kS N M K (x + 1) 2 → t ∈ kX N M K n := by
  intro n
  induction n with
  | zero => intro h; omega
  | succ n ih =>
    intro h ht
    simp only [kX]
    by_cases z : x = n
    · subst z; exact List.mem_append_right _ ht
    · exact List.mem_append_left _ (ih (by omega) ht)
theorem kid1_sub {N M K x sd g : Nat} (hx1 : 1 ≤ x) (hx : x < pW (unP N K)) (hsd : sd < 2) (hg : g ≤ mosK N K) : ∀ t, t ∈ kid1 N M K x sd g → t ∈ kidsL N M K := by
  intro t ht
  obtain ⟨y, rfl⟩ : ∃ y, x = y + 1 := ⟨x - 1, by omega⟩
  exact kX_sub _ (by omega) (kS_sub 2 hsd (kD_sub _ (by omega) ht))
theorem insA_app (L A C : List En) : insA L (A ++ C) = insA (insA L A) C := by unfold insA; rw [List.foldl_append]
section TON2
variable {γ : rG} {l : Launch} {sh : Nat × (Nat → Nat) × (Nat → Nat)} {I : Nat → Nat → Int32} {J : Nat → Nat → Int64} {R : Nat → Nat → Option Nat} {a N d idx : Nat} {B : Nat → List (List Nat)} {Pl L : List En} {Q : rHeap → Option Value → Prop}
def ToI (I : Nat → Nat → Int32) (J : Nat → Nat → Int64) (a N : Nat) (B : Nat → List (List Nat)) (d idx : Nat) (Pl L : List En) (I1 : Nat → Nat → Int32) (J1 : Nat → Nat → Int64) (X : List (Nat × Nat × Nat)) : Prop := OuS I1 J1 a N B (d + 1) Pl (insA L (X.map (mkE (gE Pl idx)))) ∧ PkC I1 (a + 6) (unP N (gE Pl idx).1.2) ∧ Sm (OuF a Pl.length) I I1 ∧ SmO a Pl.length J J1
theorem to_step {I1 : Nat → Nat → Int32} {J1 : Nat → Nat → Int64} {X : List (Nat × Nat × Nat)} {x sd g : Nat} (hA : At1 sh R a) (hT : Told N B) (hd : d < 3) (hi : idx < Pl.length) (hV : EnV N B d (gE Pl idx)) (hx1 : 1 ≤ x) (hx : x < pW (unP N (gE Pl idx).1.2)) (hsd : sd < 2) (hg : g ≤ mosK N (gE Pl idx).1.2) (h : ToI I J a N B d idx Pl L I1 J1 X) :
    ∃ I' J', rMet γ l m_X1_addTurned [.ref a, .int (nI idx), .int (nI (100 * x + 10 * sd + g)), .int (nz (decide (sd = 0))), .int (nI (levD g)), .int (nI (kidM N (gE Pl idx).1.1 (gE Pl idx).1.2 x sd g))] (sh, I1, J1, R) (sh, I', J', R) none ∧ ToI I J a N B d idx Pl L I' J' (X ++ kid1 N (gE Pl idx).1.1 (gE Pl idx).1.2 x sd g) := by
  obtain ⟨h1, h2, h3, h4⟩ := h
  obtain ⟨I', J', m1, m2, m3, m4, m5⟩ := ct_addTurned (γ := γ) (l := l) hA hT hd h1 hi hV h2 hx1 hx hsd hg (kid1_sub hx1 hx hsd hg)
  refine ⟨I', J', m1, ?_, m3, h3.tr m4, h4.tr m5⟩
  rw [List.map_append, insA_app]
  exact m2
theorem kidM_o {N M K x sd g : Nat} (hV : VNd N M K) (hx1 : 1 ≤ x) (hg : g ≠ 1) (lf : Bool) : kidM N M K x sd g = M ||| crN (unP N K) x lf true (N - 1) := by
  unfold kidM
  have e : decide (0 < levD g) = true := decide_eq_true (by unfold levD; split <;> omega)
  have h2 : 2 ≤ N := hV.2.2.1
  rw [e, crN_left hV.2.2 hx1 _ lf (N - 1) (by show N - 1 + 1 ≤ N; omega)]
theorem kidM_u {N M K x sd : Nat} (hV : VNd N M K) (hx1 : 1 ≤ x) (lf : Bool) : kidM N M K x sd 1 = M ||| crN (unP N K) x lf false (N - 1) := by
  unfold kidM
  have h2 : 2 ≤ N := hV.2.2.1
  rw [show decide (0 < levD 1) = false from rfl, crN_left hV.2.2 hx1 _ lf (N - 1) (by show N - 1 + 1 ≤ N; omega)]
theorem to_127 {x sd : Nat} (hA : At1 sh R a) (hT : Told N B) (hd : d < 3) (hi : idx < Pl.length) (hV : EnV N B d (gE Pl idx)) (hx1 : 1 ≤ x) (hx : x < pW (unP N (gE Pl idx).1.2)) (hsd : sd < 2) (X : List (Nat × Nat × Nat)) (x5 : Int32)
    (K : ∀ I2 J2, ToI I J a N B d idx Pl L I2 J2 (X ++ kD N (gE Pl idx).1.1 (gE Pl idx).1.2 x sd (mosK N (gE Pl idx).1.2 + 1)) → s_X1_turnOn_67 γ l a (nI idx) (nI (mosK N (gE Pl idx).1.2)) (nI x) (nI ((gE Pl idx).1.1 ||| crN (unP N (gE Pl idx).1.2) x true true (N - 1))) x5 (nI (sd + 1)) (sh, I2, J2, R) Q) :
    ∀ j lev I1 J1, lev + j = mosK N (gE Pl idx).1.2 → 1 ≤ lev → ToI I J a N B d idx Pl L I1 J1 (X ++ kD N (gE Pl idx).1.1 (gE Pl idx).1.2 x sd (lev + 1)) → s_X1_turnOn_127 γ l a (nI idx) (nI (mosK N (gE Pl idx).1.2)) (nI x) (nI ((gE Pl idx).1.1 ||| crN (unP N (gE Pl idx).1.2) x true true (N - 1))) x5 (nI sd) (nI (100 * x + 10 * sd)) (nz (decide (sd = 0))) (nI lev) (sh, I1, J1, R) Q := by
  have hm8 := mosK_8 hV.1
  intro j
  induction j with
  | zero =>
    intro lev I1 J1 hj h1 h
    have ej : lev = mosK N (gE Pl idx).1.2 := by omega
    rw [ej] at h ⊢
    refine w_X1_turnOn_127 hA ⟨fun _ => ?_, fun z => absurd (nI_le (Nat.le_refl _) (by omega)) z⟩
    rw [nI_1]
    exact K I1 J1 h
  | succ j ih =>
    intro lev I1 J1 hj h1 h
    obtain ⟨I2, J2, m1, m2⟩ := to_step (γ := γ) (l := l) (g := lev + 1) hA hT hd hi hV hx1 hx hsd (by omega) h
    have el : levD (lev + 1) = lev := by unfold levD; rw [if_neg (by omega)]; omega
    rw [el, kidM_o hV.1 hx1 (by omega) true] at m1
    refine w_X1_turnOn_127 hA ⟨fun z => absurd z (nI_ge (by omega) (by omega)), fun _ => ?_⟩
    rw [nI_1, nI_1, nI_add, show 100 * x + 10 * sd + 1 + lev = 100 * x + 10 * sd + (lev + 1) by omega]
    refine ⟨I2, J2, m1, ih (lev + 1) I2 J2 (by omega) (by omega) ?_⟩
    rw [List.append_assoc] at m2
    exact m2
theorem to_95 {x sd : Nat} {I1 : Nat → Nat → Int32} {J1 : Nat → Nat → Int64} (hA : At1 sh R a) (hT : Told N B) (hd : d < 3) (hi : idx < Pl.length) (hV : EnV N B d (gE Pl idx)) (hx1 : 1 ≤ x) (hx : x < pW (unP N (gE Pl idx).1.2)) (hsd : sd < 2) (X : List (Nat × Nat × Nat))
    (K : ∀ I2 J2, ToI I J a N B d idx Pl L I2 J2 (X ++ kD N (gE Pl idx).1.1 (gE Pl idx).1.2 x sd (mosK N (gE Pl idx).1.2 + 1)) → s_X1_turnOn_67 γ l a (nI idx) (nI (mosK N (gE Pl idx).1.2)) (nI x) (nI ((gE Pl idx).1.1 ||| crN (unP N (gE Pl idx).1.2) x true true (N - 1))) (nI ((gE Pl idx).1.1 ||| crN (unP N (gE Pl idx).1.2) x true false (N - 1))) (nI (sd + 1)) (sh, I2, J2, R) Q)
    (h : ToI I J a N B d idx Pl L I1 J1 X) : s_X1_turnOn_95 γ l a (nI idx) (nI (mosK N (gE Pl idx).1.2)) (nI x) (nI ((gE Pl idx).1.1 ||| crN (unP N (gE Pl idx).1.2) x true true (N - 1))) (nI ((gE Pl idx).1.1 ||| crN (unP N (gE Pl idx).1.2) x true false (N - 1))) (nI sd) (nI (100 * x + 10 * sd)) (nz (decide (sd = 0))) (sh, I1, J1, R) Q := by
  have hm1 := mosK_1 hV.1
  obtain ⟨I2, J2, m1, m2⟩ := to_step (γ := γ) (l := l) (g := 0) hA hT hd hi hV hx1 hx hsd (by omega) h
  obtain ⟨I3, J3, m3, m4⟩ := to_step (γ := γ) (l := l) (g := 1) hA hT hd hi hV hx1 hx hsd hm1 m2
  rw [kidM_o hV.1 hx1 (by omega) true] at m1
  rw [kidM_u hV.1 hx1 true] at m3
  refine w_X1_turnOn_95 hA ⟨I2, J2, m1, ?_⟩
  rw [nI_1]
  refine ⟨I3, J3, m3, ?_⟩
  refine to_127 hA hT hd hi hV hx1 hx hsd X _ K (mosK N (gE Pl idx).1.2 - 1) 1 I3 J3 (by omega) (Nat.le_refl _) ?_
  have e : X ++ kid1 N (gE Pl idx).1.1 (gE Pl idx).1.2 x sd 0 ++ kid1 N (gE Pl idx).1.1 (gE Pl idx).1.2 x sd 1 = X ++ kD N (gE Pl idx).1.1 (gE Pl idx).1.2 x sd (1 + 1) := by
    simp [kD]
  rw [e] at m4
  exact m4
theorem to_67 {x : Nat} {I1 : Nat → Nat → Int32} {J1 : Nat → Nat → Int64} (hA : At1 sh R a) (hT : Told N B) (hd : d < 3) (hi : idx < Pl.length) (hV : EnV N B d (gE Pl idx)) (hx1 : 1 ≤ x) (hx : x < pW (unP N (gE Pl idx).1.2)) (X : List (Nat × Nat × Nat))
    (K : ∀ I2 J2, ToI I J a N B d idx Pl L I2 J2 (X ++ kS N (gE Pl idx).1.1 (gE Pl idx).1.2 x 2) → s_X1_turnOn_19 γ l a (nI idx) (nI (mosK N (gE Pl idx).1.2)) (nI (x + 1)) (sh, I2, J2, R) Q)
    (h : ToI I J a N B d idx Pl L I1 J1 X) : s_X1_turnOn_67 γ l a (nI idx) (nI (mosK N (gE Pl idx).1.2)) (nI x) (nI ((gE Pl idx).1.1 ||| crN (unP N (gE Pl idx).1.2) x true true (N - 1))) (nI ((gE Pl idx).1.1 ||| crN (unP N (gE Pl idx).1.2) x true false (N - 1))) (nI 0) (sh, I1, J1, R) Q := by
  have act : ∀ sd : Nat, (100 : Int32) * nI x + 10 * nI sd = nI (100 * x + 10 * sd) := fun sd => by rw [show (100 : Int32) = nI 100 from rfl, show (10 : Int32) = nI 10 from rfl, pk_mul, pk_mul, nI_add]
  have k2 : ∀ I2 J2, ToI I J a N B d idx Pl L I2 J2 (X ++ kS N (gE Pl idx).1.1 (gE Pl idx).1.2 x 2) → s_X1_turnOn_67 γ l a (nI idx) (nI (mosK N (gE Pl idx).1.2)) (nI x) (nI ((gE Pl idx).1.1 ||| crN (unP N (gE Pl idx).1.2) x true true (N - 1))) (nI ((gE Pl idx).1.1 ||| crN (unP N (gE Pl idx).1.2) x true false (N - 1))) (nI (1 + 1)) (sh, I2, J2, R) Q := by
    intro I2 J2 h2
    refine w_X1_turnOn_67 hA ⟨fun _ => ?_, fun z => absurd (by decide) z⟩
    rw [nI_1]
    exact K I2 J2 h2
  have k1 : ∀ I2 J2, ToI I J a N B d idx Pl L I2 J2 (X ++ kD N (gE Pl idx).1.1 (gE Pl idx).1.2 x 0 (mosK N (gE Pl idx).1.2 + 1)) → s_X1_turnOn_67 γ l a (nI idx) (nI (mosK N (gE Pl idx).1.2)) (nI x) (nI ((gE Pl idx).1.1 ||| crN (unP N (gE Pl idx).1.2) x true true (N - 1))) (nI ((gE Pl idx).1.1 ||| crN (unP N (gE Pl idx).1.2) x true false (N - 1))) (nI (0 + 1)) (sh, I2, J2, R) Q := by
    intro I2 J2 h2
    refine w_X1_turnOn_67 hA ⟨fun z => absurd z (by decide), fun _ => ⟨fun z => absurd z (by decide), fun _ => ?_⟩⟩
    rw [act]
    refine to_95 (sd := 1) hA hT hd hi hV hx1 hx (by decide) _ ?_ h2
    intro I3 J3 h3
    refine k2 I3 J3 ?_
    rw [List.append_assoc] at h3
    have e : kD N (gE Pl idx).1.1 (gE Pl idx).1.2 x 0 (mosK N (gE Pl idx).1.2 + 1) ++ kD N (gE Pl idx).1.1 (gE Pl idx).1.2 x 1 (mosK N (gE Pl idx).1.2 + 1) = kS N (gE Pl idx).1.1 (gE Pl idx).1.2 x 2 := by
      simp [kS]
    rw [e] at h3
    exact h3
  refine w_X1_turnOn_67 hA ⟨fun z => absurd z (by decide), fun _ => ⟨fun _ => ?_, fun z => absurd rfl z⟩⟩
  rw [act]
  exact to_95 (sd := 0) hA hT hd hi hV hx1 hx (by decide) _ k1 h
theorem ct_turnOn (hA : At1 sh R a) (hT : Told N B) (hd : d < 3) (hS : OuS I J a N B (d + 1) Pl L) (hi : idx < Pl.length) (hV : EnV N B d (gE Pl idx)) : ∃ I' J', rMet γ l m_X1_turnOn [.ref a, .int (nI idx)] (sh, I, J, R) (sh, I', J', R) none ∧ (OuS I' J' a N B (d + 1) Pl (insA L (kidsE N (gE Pl idx))) ∧ Sm (OuF a Pl.length) I I' ∧ SmO a Pl.length J J') := by
  have hVN := hV.1
  have hb := hVN.b
  have hW8 : pW (unP N (gE Pl idx).1.2) ≤ 8 := hVN.2.2.2.2.2.1
  have hfrom : At2 sh R (a + 6) := (At1_7 hA).2
  have hPl : Pl.length ≤ 1300 := by have := hS.2.2.2.2.2; omega
  have hJ0 : J (a + 1) idx = lN (kyN (gE Pl idx).1.1 (gE Pl idx).1.2) := by
    have := (hS.2.1 idx hi).1
    rw [Nat.zero_add] at this
    exact this
  obtain ⟨I1, m1, m2, m3⟩ := ct_unpackO (γ := γ) (l := l) (J := J) hA hfrom (by omega) hVN hS.2.2.2.2.1.2 hJ0
  have m4 := ct_mostLayers (γ := γ) (l := l) (J := J) hfrom hVN.2.2 m2
  have t0 : ToI I J a N B d idx Pl L I1 J [] := ⟨hS.loc (fun b j z => m3 _ _ (by omega)), m2, m3.mono (fun b j z => Or.inr (by omega)), SmO.rf⟩
  have loop : ∀ j x I2 J2, x + j = pW (unP N (gE Pl idx).1.2) → 1 ≤ x → ToI I J a N B d idx Pl L I2 J2 (kX N (gE Pl idx).1.1 (gE Pl idx).1.2 (x - 1)) → s_X1_turnOn_19 γ l a (nI idx) (nI (mosK N (gE Pl idx).1.2)) (nI x) (sh, I2, J2, R) (fun hf v => ∃ I' J', hf = (sh, I', J', R) ∧ v = none ∧ (OuS I' J' a N B (d + 1) Pl (insA L (kidsE N (gE Pl idx))) ∧ Sm (OuF a Pl.length) I I' ∧ SmO a Pl.length J J')) := by
    intro j
    induction j with
    | zero =>
      intro x I2 J2 hj h1 h
      refine w_X1_turnOn_19 hA ⟨fun _ => ⟨I2, J2, rfl, rfl, ?_, h.2.2.1, h.2.2.2⟩, fun z => absurd ?_ z⟩
      · have := h.1
        rw [show x - 1 = pW (unP N (gE Pl idx).1.2) - 1 by omega] at this
        exact this
      · rw [h.2.1.2.1]; exact nI_le (by omega) (by omega)
    | succ j ih =>
      intro x I2 J2 hj h1 h
      have hfr : PkC I2 (a + 6) (unP N (gE Pl idx).1.2) := h.2.1
      have hJ2 : J2 (a + 1) idx = lN (kyN (gE Pl idx).1.1 (gE Pl idx).1.2) := by rw [h.2.2.2 _ _ (by omega)]; exact hJ0
      have c1 := ct_creasesOf (γ := γ) (l := l) (I := I2) (R := R) hA (show idx < 1300 by omega) hb.1 hb.2.1 hJ2
      have c2 := ct_creasesAt (γ := γ) (l := l) (J := J2) (x := x) (left := true) (over := true) hfrom hVN.2.2 hfr h1 (by omega)
      have c3 := ct_creasesAt (γ := γ) (l := l) (J := J2) (x := x) (left := true) (over := false) hfrom hVN.2.2 hfr h1 (by omega)
      rw [crM_N _ (by show N - 1 ≤ 7; omega)] at c2 c3
      have b1 : ∀ ov, crN (unP N (gE Pl idx).1.2) x true ov (N - 1) < 2 ^ 14 := fun ov => Nat.lt_of_lt_of_le (crN_lt (N - 1)) (Nat.pow_le_pow_right (by omega) (by omega))
      refine w_X1_turnOn_19 hA ⟨fun z => absurd z (by rw [hfr.2.1]; exact nI_ge (by omega) (by omega)), fun _ => ⟨_, c1, _, c2, _, c1, _, c3, ?_⟩⟩
      have b2 := b1 true
      have b3 := b1 false
      show s_X1_turnOn_67 γ l a (nI idx) (nI (mosK N (gE Pl idx).1.2)) (nI x) (nI (gE Pl idx).1.1 ||| nI (crN (unP N (gE Pl idx).1.2) x true true (N - 1))) (nI (gE Pl idx).1.1 ||| nI (crN (unP N (gE Pl idx).1.2) x true false (N - 1))) (nI 0) (sh, I2, J2, R) _
      rw [bt_or (by omega) (by omega), bt_or (by omega) (by omega)]
      refine to_67 hA hT hd hi hV h1 (by omega) _ (fun I3 J3 h3 => ih (x + 1) I3 J3 (by omega) (by omega) ?_) h
      have e : kX N (gE Pl idx).1.1 (gE Pl idx).1.2 (x - 1) ++ kS N (gE Pl idx).1.1 (gE Pl idx).1.2 x 2 = kX N (gE Pl idx).1.1 (gE Pl idx).1.2 (x + 1 - 1) := by
        obtain ⟨y, rfl⟩ : ∃ y, x = y + 1 := ⟨x - 1, by omega⟩
        rfl
      rw [e] at h3
      exact h3
  have hw1 : 1 ≤ pW (unP N (gE Pl idx).1.2) := hVN.2.2.2.2.1
  obtain ⟨I', J', q1, q2⟩ := rW_exJ (w_X1_turnOn_0 (γ := γ) (l := l) hA ⟨I1, m1, _, m4, loop (pW (unP N (gE Pl idx).1.2) - 1) 1 I1 J (by omega) (Nat.le_refl _) t0⟩)
  exact ⟨I', J', e_X1_turnOn q1, q2⟩
end TON2
