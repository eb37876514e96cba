section FL2
variable {γ : rG} {l : Launch} {Q : rHeap → Option Value → Prop} {sh : Nat × (Nat → Nat) × (Nat → Nat)} {I0 : Nat → Nat → Int32} {J : Nat → Nat → Int64} {R : Nat → Nat → Option Nat} {a q t x lev : Nat} {left : Bool} {P : Pk} {how : Int32}
def F2 (I0 I : Nat → Nat → Int32) (a t : Nat) (P : Pk) (x : Nat) (left : Bool) (lev : Nat) (k M : Nat) : Prop := Sm (Ft a t) I0 I ∧ (∀ p, p < pN P → I (a + 28) (8 * t + p) = nz (tU P x left p)) ∧ (∀ p, p < k → I (a + 26) (8 * t + p) = nI (tCol (pW P) x left (pC P p)) ∧ I (a + 27) (8 * t + p) = nI (tLay P x left lev (pC P p) (pL P p))) ∧ (∀ p, k ≤ p → p < pN P → I (a + 26) (8 * t + p) = zI (rawC P x left p)) ∧ (∀ p, p < k → tCol (pW P) x left (pC P p) ≤ M) ∧ (M = 0 ∨ ∃ p, p < k ∧ M = tCol (pW P) x left (pC P p))
/-- how the model names a level -/
def hwL (how : Int32) (lev : Nat) : Prop := (how = 0 ∧ lev = 8) ∨ (how = 1 ∧ lev = 0) ∨ (lev ≤ 8 ∧ how = nI (lev + 2))
theorem other_eq {c : Nat} (hP : PkV P) (hx : x < pW P) (hc : c < pW P) : cntY (pC P) ((((2 : Int32) * nI x) - 1) - nI c) (pN P) = tPile P x c := by
  have h5 := hP.2.2.2.2.1
  have h4 := hP.2.2.2.1
  have e : (((2 : Int32) * nI x) - 1) - nI c = zI (2 * (x : Int) - 1 - c) := by rw [zI_2, zI_1, zI_nat, zI_nat, zI_mul, zI_sub, zI_sub]
  unfold tPile
  by_cases h : c < 2 * x
  · rw [if_pos h, e, zI_toNat (n := 2 * x - 1 - c) (by omega)]
    exact cntY_nat (by omega) _ (fun p hp => by have := (h5 p hp).1; omega)
  · rw [if_neg h, e]
    refine cntY_neg ?_ _ (fun p hp => by have := (h5 p hp).1; omega)
    rw [zI_0, zI_lt (by unfold zOk; omega) (by unfold zOk; omega)]
    omega
theorem own_eq {c : Nat} (hP : PkV P) (hc : c < pW P) : cntY (pC P) (nI c) (pN P) = cnt (pC P) c (pN P) := by
  have h5 := hP.2.2.2.2.1
  have h4 := hP.2.2.2.1
  exact cntY_nat (by omega) _ (fun p hp => by have := (h5 p hp).1; omega)
theorem tPile_le {c : Nat} (hP : PkV P) : tPile P x c ≤ 8 := by
  unfold tPile
  split
  · have := cnt_le (pC P) (2 * x - 1 - c) (pN P); have := hP.2.1; omega
  · omega
theorem folds2 (hA : At9 sh R a) (hq : q < 22) (ht : t < 22) (hqt : q ≠ t) (hP : PkV P) (hx1 : 1 ≤ x) (hx : x < pW P) (hM : PkM I0 a q P) (hh : hwL how lev)
    (K : ∀ I, PkM I a t (turnP P x left lev) → Sm (Ft a t) I0 I → s_X9_folds_412 γ l a (nI q) (nI x) (nz left) 0 (nz (decide (0 < lev))) 0 (sh, I, J, R) Q) :
    ∀ j k I M, k + j = pN P → F2 I0 I a t P x left lev k M → s_X9_folds_150 γ l a (nI q) (nI t) (nI x) (nz left) how (zI (tLz (pW P) x left)) (nI M) (nI k) (sh, I, J, R) Q := by
  obtain ⟨v1, v2, v3, v4, v5, v6, v7, v8⟩ := id hP
  intro j
  induction j with
  | zero =>
    intro k I M hk hF
    have e : k = pN P := by omega
    subst e
    have hMI := hM.sm v2 hqt hF.1
    have hg : I a 39 ≤ nI (pN P) := by rw [hMI.1]; exact nI_le (Nat.le_refl _) (by omega)
    have hV := turn_V (left := left) (lev := lev) hP hx1 hx
    have hMW : M + 1 = pW (turnP P x left lev) := by
      obtain ⟨p, hp, he⟩ := cnt_ex _ (hV.2.2.2.2.2.2.1 (pW (turnP P x left lev) - 1) (by have := hV.2.2.1; omega))
      have h1 : tCol (pW P) x left (pC P p) = pW (turnP P x left lev) - 1 := he
      have h2 := hF.2.2.2.2.1 p hp
      have h3 := hV.2.2.1
      rcases hF.2.2.2.2.2 with h4 | ⟨r, hr, h4⟩
      · omega
      · have := (hV.2.2.2.2.1 r hr).1
        have h5 : tCol (pW P) x left (pC P r) < pW (turnP P x left lev) := this
        omega
    have fin : PkM (up I (a + 25) t (nI M + 1)) a t (turnP P x left lev) ∧ Sm (Ft a t) I0 (up I (a + 25) t (nI M + 1)) := by
      refine ⟨⟨?_, ?_, fun p hp => ⟨?_, ?_, ?_⟩⟩, hF.1.up (by unfold Ft; omega)⟩
      · rw [up_at, if_neg (by omega)]; exact hMI.1
      · rw [up_at, if_pos ⟨rfl, rfl⟩, nI_1, hMW]
      · rw [up_at, if_neg (by omega)]; exact (hF.2.2.1 p hp).1
      · rw [up_at, if_neg (by omega)]; exact (hF.2.2.1 p hp).2
      · rw [up_at, if_neg (by omega)]; exact hF.2.1 p hp
    have kk := K _ fin.1 fin.2
    refine w_X9_folds_150 hA ⟨fun _ => ⟨vp_in_nI ht (by decide), ?_⟩, fun z => absurd hg z⟩
    rw [nI_clamp (by omega)]
    rcases hh with ⟨h1, h2⟩ | ⟨h1, h2⟩ | ⟨h1, h2⟩
    · subst h1; subst h2
      exact ⟨fun _ => kk, fun z => absurd rfl z⟩
    · subst h1; subst h2
      exact ⟨fun z => absurd z (by decide), fun _ => ⟨fun _ => kk, fun z => absurd (by decide) z⟩⟩
    · subst h2
      refine ⟨fun z => absurd z (nI_ne0 (by omega) (by omega)), fun _ => ⟨fun z => ?_, fun z => ?_⟩⟩
      · rw [show (2 : Int32) = nI 2 by decide, nI_leI (by omega) (by omega)] at z
        have : lev = 0 := by omega
        subst this
        exact kk
      · rw [show (2 : Int32) = nI 2 by decide, nI_leI (by omega) (by omega)] at z
        have h3 : decide (0 < lev) = true := by rw [decide_eq_true_eq]; omega
        rw [h3] at kk
        exact kk
  | succ j ih =>
    intro k I M hk hF
    have hMI := hM.sm v2 hqt hF.1
    have hg : ¬ I a 39 ≤ nI k := by rw [hMI.1]; exact nI_ge (by omega) (by omega)
    have c1 : (((8 : Int32) * nI q) + nI k).toNatClampNeg = 8 * q + k := by rw [e8]; exact nI_clamp (by omega)
    have c2 : (((8 : Int32) * nI t) + nI k).toNatClampNeg = 8 * t + k := by rw [e8]; exact nI_clamp (by omega)
    have i1 : vp_in (((8 : Int32) * nI q) + nI k) 176 := by rw [e8]; exact vp_in_nI (by omega) (by decide)
    have i2 : vp_in (((8 : Int32) * nI t) + nI k) 176 := by rw [e8]; exact vp_in_nI (by omega) (by decide)
    have hkN : k < pN P := by omega
    have hc := (v5 k hkN).1
    have hl := (v5 k hkN).2
    have ho8 := cnt_le (pC P) (pC P k) (pN P)
    have hp8 := tPile_le (x := x) (c := pC P k) hP
    obtain ⟨q1, q2, q3⟩ := hMI.2.2 k hkN
    have tl := tCol_lt (left := left) hx1 hx hc
    have tw : (if x < pW P - x then pW P - x else x) ≤ 8 := by split <;> omega
    have hM8 : M ≤ 8 := by
      rcases hF.2.2.2.2.2 with h4 | ⟨r, hr, h4⟩
      · omega
      · have := tCol_lt (left := left) hx1 hx (v5 r (by omega)).1; omega
    have b323 : ∀ s0 : Int32, s0 = nI (tLay P x left lev (pC P k) (pL P k)) → s_X9_folds_323 γ l a (nI q) (nI t) (nI x) (nz left) how (zI (tLz (pW P) x left)) (nI M) (nI k) s0 (((8 : Int32) * nI t) + nI k) (a + 27) (sh, I, J, R) Q := by
      intro s0 hs0
      subst hs0
      refine w_X9_folds_323 hA (At9_42 hA).2.1 (At9_42 hA).2.2 ⟨i2, i2, i2, i2, ?_⟩
      rw [c2]
      have e1 : up I (a + 27) (8 * t + k) (nI (tLay P x left lev (pC P k) (pL P k))) (a + 26) (8 * t + k) - zI (tLz (pW P) x left) = nI (tCol (pW P) x left (pC P k)) := by
        rw [up_at, if_neg (by omega), hF.2.2.2.1 k (Nat.le_refl _) hkN, zI_sub, rawC_eq hP hx1 hx hkN, zI_nat]
        congr 1
        omega
      rw [e1]
      have e2 : ∀ (K : Nat → Nat → Int32) (v : Int32), up K (a + 26) (8 * t + k) v (a + 26) (8 * t + k) = v := fun K v => by rw [up_at, if_pos ⟨rfl, rfl⟩]
      rw [e2, nI_leI (by omega) (by omega), nI_1]
      have hF2 : ∀ M', M' = (if tCol (pW P) x left (pC P k) ≤ M then M else tCol (pW P) x left (pC P k)) → F2 I0 (up (up I (a + 27) (8 * t + k) (nI (tLay P x left lev (pC P k) (pL P k)))) (a + 26) (8 * t + k) (nI (tCol (pW P) x left (pC P k)))) a t P x left lev (k + 1) M' := by
        intro M' hM'
        obtain ⟨f1, f2, f3, f4, f5, f6⟩ := hF
        refine ⟨(f1.up (by unfold Ft; omega)).up (by unfold Ft; omega), fun p hp => ?_, fun p hp => ?_, fun p hp1 hp2 => ?_, fun p hp => ?_, ?_⟩
        · rw [up_at, if_neg (by omega), up_at, if_neg (by omega)]; exact f2 p hp
        · by_cases hpk : p = k
          · subst hpk; simp [up_at]
          · have := f3 p (by omega)
            simp [up_at, hpk, this]
        · rw [up_at, if_neg (by omega), up_at, if_neg (by omega)]; exact f4 p (by omega) hp2
        · by_cases hpk : p = k
          · subst hpk; rw [hM']; split <;> omega
          · have := f5 p (by omega); rw [hM']; split <;> omega
        · rw [hM']
          split
          · rcases f6 with f6 | ⟨p, hp, f6⟩
            · exact Or.inl f6
            · exact Or.inr ⟨p, by omega, f6⟩
          · exact Or.inr ⟨k, by omega, rfl⟩
      exact ⟨fun z => ih (k + 1) _ _ (by omega) (hF2 M (by rw [if_pos z])), fun z => ⟨i2, ih (k + 1) _ _ (by omega) (hF2 _ (by rw [if_neg z]))⟩⟩
    have b261 : ∀ (bl : Nat) (s0 : Int32), s0 = nI bl → bl ≤ 8 → (if tMv x left (pC P k) then bl = (if tPile P x (pC P k) < lev then tPile P x (pC P k) else lev) else (pL P k < bl ↔ pL P k < lev)) → s_X9_folds_261 γ l a (nI q) (nI t) (nI x) (nz left) how (zI (tLz (pW P) x left)) (nI M) (nI k) (nz (tMv x left (pC P k))) (nI (tPile P x (pC P k))) (nI (cnt (pC P) (pC P k) (pN P))) s0 (sh, I, J, R) Q := by
      intro bl s0 hs0 hb8 hb
      subst hs0
      refine w_X9_folds_261 hA ⟨i1, ?_⟩
      rw [c1, q2, nz_0, nI_leI (by omega) (by omega)]
      refine ⟨fun z => ?_, fun z => b323 _ ?_⟩
      · rw [if_neg (by rw [z]; decide)] at hb
        refine ⟨fun y => b323 _ ?_, fun y => b323 _ ?_⟩
        · unfold tLay
          rw [if_neg (by rw [z]; decide), if_neg (by omega), nI_add]
        · unfold tLay
          rw [if_neg (by rw [z]; decide), if_pos (by omega)]
      · have z' : tMv x left (pC P k) = true := by simpa using z
        rw [if_pos z'] at hb
        unfold tLay
        rw [if_pos z', ← hb, nI_add, show (1 : Int32) = nI 1 by decide, pk_sub (by omega), pk_sub (by omega)]
        congr 1
        omega
    have b221 : ∀ th : Nat, th = (if tMv x left (pC P k) then tPile P x (pC P k) else cnt (pC P) (pC P k) (pN P)) → s_X9_folds_221 γ l a (nI q) (nI t) (nI x) (nz left) how (zI (tLz (pW P) x left)) (nI M) (nI k) (nz (tMv x left (pC P k))) (nI (tPile P x (pC P k))) (nI (cnt (pC P) (pC P k) (pN P))) (nI th) (sh, I, J, R) Q := by
      intro th hth
      refine w_X9_folds_221 hA ?_
      have ht8 : th ≤ 8 := by rw [hth]; split <;> omega
      rcases hh with ⟨h1, h2⟩ | ⟨h1, h2⟩ | ⟨h1, h2⟩
      · subst h1; subst h2
        refine ⟨fun _ => b261 th _ rfl ht8 ?_, fun z => absurd rfl z⟩
        split <;> rename_i hmv
        · rw [hth, if_pos hmv]; split <;> omega
        · rw [hth, if_neg hmv]; omega
      · subst h1; subst h2
        refine ⟨fun z => absurd z (by decide), fun _ => ⟨fun _ => b261 0 _ (by decide) (by omega) ?_, fun z => absurd rfl z⟩⟩
        split <;> rename_i hmv
        · rw [if_neg (by omega)]
        · omega
      · subst h2
        have e2 : nI (lev + 2) - (2 : Int32) = nI lev := by rw [show (2 : Int32) = nI 2 by decide, pk_sub (by omega)]; congr 1
        rw [e2, nI_leI (by omega) (by omega)]
        refine ⟨fun z => absurd z (nI_ne0 (by omega) (by omega)), fun _ => ⟨fun z => ?_, fun _ => ⟨fun z => b261 th _ rfl ht8 ?_, fun z => b261 lev _ rfl h1 ?_⟩⟩⟩
        · rw [show (1 : Int32) = nI 1 by decide, nI_eq (by omega) (by omega)] at z; omega
        · split <;> rename_i hmv
          · rw [if_pos hmv] at hth; split <;> omega
          · rw [if_neg hmv] at hth; omega
        · split <;> rename_i hmv
          · rw [if_pos hmv] at hth; split <;> omega
          · omega
    refine w_X9_folds_150 hA ⟨fun z => absurd z hg, fun _ => ⟨_, ct_turns hA hq v2 hMI hkN (by omega) (by omega), i1, _, ct_layersOf hA hq v2 hMI, _, ct_layersOf hA hq v2 hMI, ?_⟩⟩
    rw [c1, q1, other_eq hP hx hc, own_eq hP hc, nz_0]
    refine ⟨fun z => b221 _ ?_, fun z => b221 _ ?_⟩
    · rw [if_neg (by rw [z]; decide)]
    · rw [if_pos (by simpa using z)]
theorem folds3 {over : Bool} {I : Nat → Nat → Int32} (hA : At9 sh R a) (hq : q < 22) (hP : PkV P) (hx : x < pW P) (hM : PkM I a q P) (K : Q (sh, I, J, R) (some (.int (crM P x left over (pN P - 1))))) :
    ∀ j k, k + 1 + j = pN P → s_X9_folds_412 γ l a (nI q) (nI x) (nz left) (crM P x left over k) (nz over) (nI k) (sh, I, J, R) Q := by
  obtain ⟨v1, v2, v3, v4, v5, v6, v7, v8⟩ := id hP
  intro j
  induction j with
  | zero =>
    intro k hk
    have e : k = pN P - 1 := by omega
    have hg : I a 39 ≤ nI k + 1 := by rw [hM.1, nI_1]; exact nI_le (by omega) (by omega)
    refine w_X9_folds_412 hA ⟨fun _ => ?_, fun z => absurd hg z⟩
    rw [e]; exact K
  | succ j ih =>
    intro k hk
    have hg : ¬ I a 39 ≤ nI k + 1 := by rw [hM.1, nI_1]; exact nI_ge (by omega) (by omega)
    have c1 : (((8 : Int32) * nI q) + nI k).toNatClampNeg = 8 * q + k := by rw [e8]; exact nI_clamp (by omega)
    have c2 : ((((8 : Int32) * nI q) + nI k) + 1).toNatClampNeg = 8 * q + (k + 1) := by rw [e8, nI_1]; exact nI_clamp (by omega)
    have i1 : vp_in (((8 : Int32) * nI q) + nI k) 176 := by rw [e8]; exact vp_in_nI (by omega) (by decide)
    have i2 : vp_in ((((8 : Int32) * nI q) + nI k) + 1) 176 := by rw [e8, nI_1]; exact vp_in_nI (by omega) (by decide)
    have hc := (v5 k (by omega)).1
    have hc2 := (v5 (k + 1) (by omega)).1
    obtain ⟨q1, q2, q3⟩ := hM.2.2 k (by omega)
    obtain ⟨r1, r2, r3⟩ := hM.2.2 (k + 1) (by omega)
    have nx := ih (k + 1) (by omega)
    simp only [crM] at nx
    refine w_X9_folds_412 hA ⟨fun z => absurd z hg, fun _ => ⟨i1, i2, ?_⟩⟩
    rw [c1, c2, q1, r1, q3, nI_eq (by omega) (by omega), nI_1]
    refine ⟨fun z => ?_, fun z => ⟨_, ct_turns hA hq v2 hM (by omega) (by omega) (by omega), _, ct_turns hA hq v2 hM (by omega) (by omega) (by omega), ?_⟩⟩
    · rw [if_pos (Or.inl z)] at nx; exact nx
    · rw [nz_eq]
      refine ⟨fun y => ?_, fun y => ⟨i1, ?_⟩⟩
      · rw [if_pos (Or.inr y)] at nx; exact nx
      · rw [if_neg (fun w => w.elim z y)] at nx
        rw [nz_eq]
        refine ⟨fun w => ?_, fun w => ?_⟩
        · rw [if_pos w] at nx; exact nx
        · rw [if_neg w] at nx; exact nx
theorem ct_folds (hA : At9 sh R a) (hq : q < 22) (ht : t < 22) (hqt : q ≠ t) (hP : PkV P) (hx1 : 1 ≤ x) (hx : x < pW P) (hM : PkM I0 a q P) (hh : hwL how lev) :
    ∃ I', rMet γ l m_X9_folds [.ref a, .int (nI q), .int (nI t), .int (nI x), .int (nz left), .int how] (sh, I0, J, R) (sh, I', J, R) (some (.int (crM P x left (decide (0 < lev)) (pN P - 1)))) ∧ PkM I' a t (turnP P x left lev) ∧ Sm (Ft a t) I0 I' := by
  have key : s_X9_folds_0 γ l a (nI q) (nI t) (nI x) (nz left) how (sh, I0, J, R) (fun hf r => ∃ I', hf = (sh, I', J, R) ∧ r = some (.int (crM P x left (decide (0 < lev)) (pN P - 1))) ∧ PkM I' a t (turnP P x left lev) ∧ Sm (Ft a t) I0 I') := by
    refine w_X9_folds_0 hA ?_
    refine folds1 hA hq ht hqt hP hx1 hx hM (fun I m h1 => ?_) (pN P) 0 I0 1000 (by omega) ⟨Sm.rf, fun p hp => by omega, fun p hp => by omega, Or.inl rfl⟩
    rw [F1_least hP hx1 hx h1]
    refine folds2 (lev := lev) hA hq ht hqt hP hx1 hx hM hh (fun I h2 h3 => ?_) (pN P) 0 I 0 (by omega) ⟨h1.1, fun p hp => (h1.2.1 p hp).2, fun p hp => by omega, fun p _ hp => (h1.2.1 p hp).1, fun p hp => by omega, Or.inl rfl⟩
    have := hP.1
    exact folds3 hA hq hP hx (hM.sm hP.2.1 hqt h3) ⟨I, rfl, rfl, h2, h3⟩ (pN P - 1) 0 (by omega)
  obtain ⟨hf, r, h1, I', rfl, rfl, h2⟩ := key
  exact ⟨I', e_X9_folds h1, h2⟩
end FL2
