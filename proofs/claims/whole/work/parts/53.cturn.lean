/-! ===== the class's turn ===== -/
theorem nz_eq {a b : Bool} : nz a = nz b ↔ a = b := by cases a <;> cases b <;> decide
theorem nz_0 {a : Bool} : nz a = 0 ↔ a = false := by cases a <;> decide
section CTN
variable {γ : rG} {l : Launch} {sh : Nat × (Nat → Nat) × (Nat → Nat)} {I : Nat → Nat → Int32} {J : Nat → Nat → Int64} {R : Nat → Nat → Option Nat} {a b x lev : Nat} {left : Bool} {P : Pk}
/-- the heap behind k parts -/
def tLA (I : Nat → Nat → Int32) (a : Nat) (Q : Pk) (k : Nat) : Nat → Nat → Int32 := layAll (pkBegin I a (nI (pN Q)) (nI (pW Q))) a (pC Q) (pL Q) (pU Q) k
theorem tLA_s {Q : Pk} {k : Nat} : tLA I a Q (k + 1) = pkLay (tLA I a Q k) a k (pC Q k) (pL Q k) (pU Q k) := rfl
theorem tLA_row {Q : Pk} {k r : Nat} (h : r < a ∨ a + 6 ≤ r) : tLA I a Q k r = I r := by unfold tLA; rw [layAll_row h, pkBegin_row h]
theorem tLA_N {Q : Pk} {k : Nat} : tLA I a Q k a 0 = nI (pN Q) := by unfold tLA; rw [layAll_own]; exact pkBegin_own.1
def tLz (w x : Nat) (left : Bool) : Int := if left then (x : Int) else -(tSh w x : Int)
theorem tCol_un {w c : Nat} (hx1 : 1 ≤ x) (hx : x < w) (hc : c < w) (h : tMv x left c = false) : (c : Int) - tLz w x left = (tCol w x left c : Int) := by
  unfold tMv at h
  unfold tLz tCol tSh
  cases left <;> simp at h ⊢ <;> (repeat' split) <;> omega
theorem tCol_mv {w c : Nat} (hx1 : 1 ≤ x) (hx : x < w) (hc : c < w) (h : tMv x left c = true) : (2 * (x : Int) - 1 - c) - tLz w x left = (tCol w x left c : Int) := by
  unfold tMv at h
  unfold tLz tCol tSh
  cases left <;> simp at h ⊢ <;> (repeat' split) <;> omega
theorem turn_tail (hA : At2 sh R a) (hB : At2 sh R b) (hab : b + 6 ≤ a ∨ a + 6 ≤ b) (hP : PkV P) (hC : PkC I b P) (hx1 : 1 ≤ x) (hx : x < pW P) (hlev : lev ≤ 8) {k : Nat} (hk : k < pN P) {hf : rHeap}
    (kk : rV γ l m_X2_turn 0 0 45 [some (.ref a), some (.ref b), some (.int (nI x)), some (.int (nz left)), some (.int (nI lev)), some (.int (nI (pW P))), some (.int (zI (tLz (pW P) x left))), some (.int (nI (k + 1))), none, none, none, none, none] [] (sh, tLA I a (turnP P x left lev) (k + 1), J, R) hf none) :
    rV γ l m_X2_turn 0 0 105 [some (.ref a), some (.ref b), some (.int (nI x)), some (.int (nz left)), some (.int (nI lev)), some (.int (nI (pW P))), some (.int (zI (tLz (pW P) x left))), some (.int (nI k)), some (.int (nI (pC P k))), some (.int (nI (pL P k))), some (.int (zI (2 * (x : Int) - 1 - (pC P k : Int)))), none, none] [.int (nI (tPile P x (pC P k)))] (sh, tLA I a (turnP P x left lev) k, J, R) hf none := by
  obtain ⟨v1, v2, v3, v4, v5, v6, v7, v8⟩ := id hP
  have hc := (v5 k hk).1
  have hq := (v5 k hk).2
  have hq8 := cnt_le (pC P) (pC P k) (pN P)
  have hT := turn_V (left := left) (lev := lev) hP hx1 hx
  have hTk := hT.inn.2.2.1 k hk
  have hW8 : pW (turnP P x left lev) ≤ 8 := hT.2.2.2.1
  have e3 : tLA I a (turnP P x left lev) k (b + 3) k = nz (pU P k) := by rw [tLA_row (by omega)]; exact (hC.2.2.1 k hk).2.2
  have e4 : tLA I a (turnP P x left lev) k (b + 4) (pC P k) = nI (cnt (pC P) (pC P k) (pN P)) := by rw [tLA_row (by omega)]; exact hC.2.2.2.1 _ (by omega)
  have ck : (nI k).toNatClampNeg = k := nI_clamp (by omega)
  have cc : (nI (pC P k)).toNatClampNeg = pC P k := nI_clamp (by omega)
  have vk : vp_in (nI k) 8 := vp_in_nI (by omega) (by decide)
  have lay : ∀ (c' q' : Int32) (u' : Int32), c' = nI (tCol (pW P) x left (pC P k)) → q' = nI (tLay P x left lev (pC P k) (pL P k)) → u' = nz (if tMv x left (pC P k) then !pU P k else pU P k) → rMet γ l m_X2_lay [.ref a, .int (nI k), .int c', .int q', .int u'] (sh, tLA I a (turnP P x left lev) k, J, R) (sh, tLA I a (turnP P x left lev) (k + 1), J, R) none := by
    intro c' q' u' h1 h2 h3
    rw [h1, h2, h3]
    have h4 : tCol (pW P) x left (pC P k) < pW (turnP P x left lev) := hTk.1
    exact ct_lay (c := tCol (pW P) x left (pC P k)) hA (by omega) (by omega) hTk.2
  have body : ∀ (s0 : Int32), s0 = nz (decide (pC P k < x)) → rV γ l m_X2_turn 0 0 118 [some (.ref a), some (.ref b), some (.int (nI x)), some (.int (nz left)), some (.int (nI lev)), some (.int (nI (pW P))), some (.int (zI (tLz (pW P) x left))), some (.int (nI k)), some (.int (nI (pC P k))), some (.int (nI (pL P k))), some (.int (zI (2 * (x : Int) - 1 - (pC P k : Int)))), some (.int (nI (tPile P x (pC P k)))), none] [.int s0] (sh, tLA I a (turnP P x left lev) k, J, R) hf none := by
    intro s0 hs0
    have hmv : s0 = nz left ↔ tMv x left (pC P k) = true := by
      rw [hs0, nz_eq]
      unfold tMv
      cases decide (pC P k < x) <;> cases left <;> simp
    have colU : ¬ s0 = nz left → nI (pC P k) - zI (tLz (pW P) x left) = nI (tCol (pW P) x left (pC P k)) := by
      intro z
      have hm : tMv x left (pC P k) = false := by cases h : tMv x left (pC P k); rfl; exact absurd (hmv.mpr h) z
      rw [zI_nat, zI_sub, tCol_un hx1 hx hc hm, ← zI_nat]
    have colM : s0 = nz left → zI (2 * (x : Int) - 1 - (pC P k : Int)) - zI (tLz (pW P) x left) = nI (tCol (pW P) x left (pC P k)) := by
      intro z
      rw [zI_sub, tCol_mv hx1 hx hc (hmv.mp z), ← zI_nat]
    have layM : s0 = nz left → (if nI (tPile P x (pC P k)) < nI lev then nI (tPile P x (pC P k)) else nI lev) + ((nI (cnt (pC P) (pC P k) (pN P)) - (1 : Int32)) - nI (pL P k)) = nI (tLay P x left lev (pC P k) (pL P k)) := by
      intro z
      have hp8 : tPile P x (pC P k) ≤ 8 := by unfold tPile; split; have := cnt_le (pC P) (2 * x - 1 - pC P k) (pN P); omega; omega
      unfold tLay
      rw [if_pos (hmv.mp z), show (1 : Int32) = nI 1 by decide, pk_sub (by omega), pk_sub (by omega)]
      by_cases hm : tPile P x (pC P k) < lev
      · rw [if_pos hm, if_pos (nI_lt hm (by omega)), nI_add]
      · rw [if_neg hm, if_neg (nI_nlt (by omega) (by omega)), nI_add]
    refine b_X2_turn_118 (I4 := tLA I a (turnP P x left lev) (k + 1)) (I8 := tLA I a (turnP P x left lev) (k + 1)) (I14 := tLA I a (turnP P x left lev) (k + 1)) (I17 := tLA I a (turnP P x left lev) (k + 1)) hA hB (fun _ _ => vk) (fun z1 z2 => ?_) (fun z1 z2 => ?_) (fun _ _ => vk) (fun z1 z2 => ?_) (fun z1 z2 => ?_) (fun z1 => vp_in_nI (by omega) (by decide)) (fun _ => vk) (fun z1 z2 => ?_) (fun z1 z2 => ?_) (fun z1 z2 => ?_) (fun z1 z2 => ?_)
    · have hm : tMv x left (pC P k) = false := by cases h : tMv x left (pC P k); rfl; exact absurd (hmv.mpr h) z1
      refine lay _ _ _ (colU z1) ?_ ?_
      · rw [nI_leI (by omega) (by omega)] at z2
        unfold tLay
        rw [hm, nI_add]
        simp only [Bool.false_eq_true, if_false]
        rw [if_neg (by omega)]
      · rw [ck, e3, hm]; rfl
    · rw [nI_1]; exact kk
    · have hm : tMv x left (pC P k) = false := by cases h : tMv x left (pC P k); rfl; exact absurd (hmv.mpr h) z1
      refine lay _ _ _ (colU z1) ?_ ?_
      · rw [nI_leI (by omega) (by omega)] at z2
        unfold tLay
        rw [hm]
        simp only [Bool.false_eq_true, if_false]
        rw [if_pos (by omega)]
      · rw [ck, e3, hm]; rfl
    · rw [nI_1]; exact kk
    · rw [ck, e3] at z2
      refine lay _ _ _ (colM z1) ?_ ?_
      · rw [cc, e4]; exact layM z1
      · rw [hmv.mp z1]
        cases hu : pU P k
        · rw [hu] at z2; exact absurd (by decide) z2
        · decide
    · rw [nI_1]; exact kk
    · rw [ck, e3] at z2
      refine lay _ _ _ (colM z1) ?_ ?_
      · rw [cc, e4]; exact layM z1
      · rw [hmv.mp z1, nz_0.mp z2]; decide
    · rw [nI_1]; exact kk
  refine b_X2_turn_105 hA hB (fun z => body 0 ?_) (fun z => body 1 ?_)
  · rw [nI_leI (by omega) (by omega)] at z
    have : ¬ pC P k < x := by omega
    simp [this, nz]
  · rw [nI_leI (by omega) (by omega)] at z
    have : pC P k < x := by omega
    simp [this, nz]
theorem turn_loop (hA : At2 sh R a) (hB : At2 sh R b) (hab : b + 6 ≤ a ∨ a + 6 ≤ b) (hP : PkV P) (hC : PkC I b P) (hx1 : 1 ≤ x) (hx : x < pW P) (hlev : lev ≤ 8) : ∀ j k, k + j = pN P → rV γ l m_X2_turn 0 0 45 [some (.ref a), some (.ref b), some (.int (nI x)), some (.int (nz left)), some (.int (nI lev)), some (.int (nI (pW P))), some (.int (zI (tLz (pW P) x left))), some (.int (nI k)), none, none, none, none, none] [] (sh, tLA I a (turnP P x left lev) k, J, R) (sh, tLA I a (turnP P x left lev) (pN P), J, R) none := by
  obtain ⟨v1, v2, v3, v4, v5, v6, v7, v8⟩ := id hP
  intro j
  induction j with
  | zero =>
    intro k hk
    have e : k = pN P := by omega
    subst e
    have hg : tLA I a (turnP P x left lev) (pN P) a 0 ≤ nI (pN P) := by rw [tLA_N]; exact nI_le (Nat.le_refl _) (by omega)
    exact b_X2_turn_45 hA hB (fun _ => ⟨rfl, rfl⟩) (fun z => absurd hg z) (fun z => absurd hg z) (fun z => absurd hg z) (fun z => absurd hg z) (fun z => absurd hg z) (fun z => absurd hg z)
  | succ j ih =>
    intro k hk
    have hkn : k < pN P := by omega
    have hg : ¬ tLA I a (turnP P x left lev) k a 0 ≤ nI k := by rw [tLA_N]; exact nI_ge (by show k < pN P; omega) (by show pN P < 2 ^ 31; omega)
    have ck : (nI k).toNatClampNeg = k := nI_clamp (by omega)
    have vk : vp_in (nI k) 8 := vp_in_nI (by omega) (by decide)
    have hc := (v5 k hkn).1
    have e1 : tLA I a (turnP P x left lev) k (b + 1) (nI k).toNatClampNeg = nI (pC P k) := by rw [ck, tLA_row (by omega)]; exact (hC.2.2.1 k hkn).1
    have e2 : tLA I a (turnP P x left lev) k (b + 2) (nI k).toNatClampNeg = nI (pL P k) := by rw [ck, tLA_row (by omega)]; exact (hC.2.2.1 k hkn).2.1
    have ea : (((2 : Int32) * nI x) - (1 : Int32)) - nI (pC P k) = zI (2 * (x : Int) - 1 - (pC P k : Int)) := by rw [zI_2, zI_1, zI_nat, zI_nat, zI_mul, zI_sub, zI_sub]
    have tail := turn_tail (γ := γ) (l := l) (J := J) hA hB hab hP hC hx1 hx hlev hkn (ih (k + 1) (by omega))
    have ok : zOk (2 * (x : Int) - 1 - (pC P k : Int)) := by unfold zOk; omega
    have p0 : ¬ (pC P k < 2 * x ∧ 2 * x - 1 - pC P k < pW P) → nI (tPile P x (pC P k)) = 0 := fun z => by rw [tPile_zero hP z]; decide
    refine b_X2_turn_45 hA hB (fun z => absurd z hg) (fun _ => vk) (fun _ => vk) (fun _ z => ?_) (fun _ z1 z2 => ?_) (fun _ z1 z2 => ?_) (fun _ z1 z2 => ?_)
    · rw [e1, ea, zI_0, zI_lt ok (by unfold zOk; omega)] at z
      rw [e1, e2, ea]
      refine b_X2_turn_104 hA hB ?_
      rw [← p0 (by omega)]
      exact tail
    · rw [e1, ea, zI_nat, zI_le (by unfold zOk; omega) ok] at z2
      rw [e1, e2, ea]
      refine b_X2_turn_104 hA hB ?_
      rw [← p0 (by omega)]
      exact tail
    · rw [e1, ea, zI_0, zI_lt ok (by unfold zOk; omega)] at z1
      rw [e1, ea, zI_nat, zI_le (by unfold zOk; omega) ok] at z2
      rw [e1, ea, zI_toNat (n := 2 * x - 1 - pC P k) (by omega)]
      exact vp_in_nI (by omega) (by decide)
    · rw [e1, ea, zI_0, zI_lt ok (by unfold zOk; omega)] at z1
      rw [e1, ea, zI_nat, zI_le (by unfold zOk; omega) ok] at z2
      have e5 : (zI (2 * (x : Int) - 1 - (pC P k : Int))).toNatClampNeg = 2 * x - 1 - pC P k := by rw [zI_toNat (n := 2 * x - 1 - pC P k) (by omega)]; exact nI_clamp (by omega)
      have e6 : tLA I a (turnP P x left lev) k (b + 4) (2 * x - 1 - pC P k) = nI (tPile P x (pC P k)) := by
        rw [tLA_row (by omega), hC.2.2.2.1 _ (by omega)]
        unfold tPile
        rw [if_pos (by omega)]
      rw [e1, e2, ea, e5, e6]
      exact tail
theorem ct_turn (hA : At2 sh R a) (hB : At2 sh R b) (hab : b + 6 ≤ a ∨ a + 6 ≤ b) (hP : PkV P) (hC : PkC I b P) (hx1 : 1 ≤ x) (hx : x < pW P) (hlev : lev ≤ 8) : rMet γ l m_X2_turn [.ref a, .ref b, .int (nI x), .int (nz left), .int (nI lev)] (sh, I, J, R) (sh, tLA I a (turnP P x left lev) (pN P), J, R) none := by
  obtain ⟨v1, v2, v3, v4, v5, v6, v7, v8⟩ := id hP
  have lp := turn_loop (γ := γ) (l := l) (J := J) (left := left) hA hB hab hP hC hx1 hx hlev (pN P) 0 (by omega)
  have e1 : (if nI x < (I b 1 - nI x) then (I b 1 - nI x) else nI x) = nI (pW (turnP P x left lev)) := by
    rw [hC.2.1, pk_sub (by omega)]
    show _ = nI (if x < pW P - x then pW P - x else x)
    by_cases h : x < pW P - x
    · rw [if_pos h, if_pos (nI_lt h (by omega))]
    · rw [if_neg h, if_neg (nI_nlt (by omega) (by omega))]
  refine e_X2_turn (b_X2_turn_0 (I1 := tLA I a (turnP P x left lev) 0) hA hB ?_ (fun z => ?_) (fun z => ?_))
  · rw [hC.1, e1]
    exact ct_begin hA
  · rw [nz_0] at z
    subst z
    have e2 : (if (((2 : Int32) * nI x) - I b 1) < (0 : Int32) then (((2 : Int32) * nI x) - I b 1) else (0 : Int32)) = zI (tLz (pW P) x false) := by
      rw [hC.2.1, zI_2, zI_nat, zI_nat, zI_mul, zI_sub, zI_0]
      unfold tLz tSh
      by_cases h : 2 * (x : Int) - (pW P : Int) < 0
      · rw [if_pos ((zI_lt (by unfold zOk; omega) (by unfold zOk; omega)).mpr h)]
        simp only [Bool.false_eq_true, if_false]
        rw [if_pos (by omega)]
        congr 1
        omega
      · rw [if_neg (fun q => h ((zI_lt (by unfold zOk; omega) (by unfold zOk; omega)).mp q))]
        simp only [Bool.false_eq_true, if_false]
        rw [if_neg (by omega)]
        rfl
    rw [e2, hC.2.1]
    exact lp
  · have hl : left = true := by cases left; exact absurd (by decide) z; rfl
    subst hl
    rw [hC.2.1]
    have e3 : nI x = zI (tLz (pW P) x true) := by unfold tLz; rw [zI_nat]; rfl
    have := lp
    rw [← e3] at this
    exact this
end CTN
