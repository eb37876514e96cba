/-! ===== ease; pairs of calls that ask for prices ===== -/
noncomputable def sgJ (Rs : List Rul) (T : Sht) (left i : Nat) : Int32 := @ite _ (rdP (yP T left) i) (Classical.propDecidable _) 0 (ppJ Rs T left i)
/-- the sum of harms, the least, and with how many undone: behind the first k steps -/
noncomputable def eaS (Rs : List Rul) (T : Sht) (i : Nat) : Nat → Int32 × Int32 × Int32
  | 0 => (0, -1, -1)
  | k + 1 =>
    let q := eaS Rs T i k
    let su := if k = 0 then q.1 else q.1 + hvA Rs T (yA T - k)
    let sg := sgJ Rs T (yA T - k) i
    if sg = -1 then (su, q.2) else if q.2.1 = -1 ∨ su + sg < q.2.1 then (su, su + sg, nI k) else (su, q.2)
theorem sg_nat {Rs : List Rul} {T : Sht} {left i : Nat} : sgJ Rs T left i = -1 ∨ ∃ k : Nat, k ≤ 1000 ∧ sgJ Rs T left i = nI k := by
  unfold sgJ
  split
  · exact Or.inr ⟨0, by omega, by decide⟩
  · exact pp_nat
def suA (Rs : List Rul) (T : Sht) (k : Nat) (su : Int32) : Int32 := if k = 0 then su else su + hvA Rs T (yA T - k)
theorem eaS_s {Rs : List Rul} {T : Sht} {i k : Nat} : eaS Rs T i (k + 1) = if sgJ Rs T (yA T - k) i = -1 then (suA Rs T k (eaS Rs T i k).1, (eaS Rs T i k).2) else if (eaS Rs T i k).2.1 = -1 ∨ suA Rs T k (eaS Rs T i k).1 + sgJ Rs T (yA T - k) i < (eaS Rs T i k).2.1 then (suA Rs T k (eaS Rs T i k).1, suA Rs T k (eaS Rs T i k).1 + sgJ Rs T (yA T - k) i, nI k) else (suA Rs T k (eaS Rs T i k).1, (eaS Rs T i k).2) := rfl
theorem eaS_1 {Rs : List Rul} {T : Sht} {i k : Nat} : (eaS Rs T i (k + 1)).1 = suA Rs T k (eaS Rs T i k).1 := by
  rw [eaS_s]
  split
  · rfl
  · split <;> rfl
theorem eaS_nat {Rs : List Rul} {T : Sht} (h16 : Rs.length ≤ 16) {i : Nat} : ∀ k, k ≤ 17 → (∃ x : Nat, x ≤ 1000 * k ∧ (eaS Rs T i k).1 = nI x) ∧ (((eaS Rs T i k).2.1 = -1 ∧ (eaS Rs T i k).2.2 = -1) ∨ ¬ (eaS Rs T i k).2.1 = -1) := by
  intro k
  induction k with
  | zero => intro _; exact ⟨⟨0, by omega, by rw [nI_0]; rfl⟩, Or.inl ⟨rfl, rfl⟩⟩
  | succ k ih =>
    intro hk
    obtain ⟨⟨x, hx, ex⟩, h2⟩ := ih (by omega)
    have hsu : ∃ y : Nat, y ≤ 1000 * (k + 1) ∧ suA Rs T k (eaS Rs T i k).1 = nI y := by
      unfold suA
      split
      · exact ⟨x, by omega, ex⟩
      · obtain ⟨z, hz, ez⟩ := hv_nat (T := T) h16 (yA T - k)
        exact ⟨x + z, by omega, by rw [ex, ez, nI_add]⟩
    refine ⟨by rw [eaS_1]; exact hsu, ?_⟩
    rw [eaS_s]
    split
    · exact h2
    · rename_i hne
      split
      · right
        obtain ⟨y, hy, ey⟩ := hsu
        rcases sg_nat (Rs := Rs) (T := T) (left := yA T - k) (i := i) with q | ⟨z, hz, ez⟩
        · exact absurd q hne
        · show ¬ suA Rs T k (eaS Rs T i k).1 + sgJ Rs T (yA T - k) i = -1
          rw [ey, ez, nI_add]
          exact nI_ne1 (by omega)
      · exact h2
section EAS
variable {γ : rG} {l : Launch} {sh : Nat × (Nat → Nat) × (Nat → Nat)} {I : Nat → Nat → Int32} {J : Nat → Nat → Int64} {R : Nat → Nat → Option Nat} {a p m s n : Nat} {Rs : List Rul} {T : Sht}
def Pw (a p b j : Nat) : Prop := Pp p b j ∨ (b = a ∧ (j = 12 ∨ j = 13))
theorem Pw_C (hVs : V_sheet n T) (hCs : C_sheet I a T) (hpa : p + 8 ≤ a ∨ a + 111 ≤ p) {I1 : Nat → Nat → Int32} (h : Sm (Pw a p) I I1) : C_sheet I1 a T :=
  hCs.loc hVs.2.2.1 (fun b j q _ => h b j (by unfold Pw Pp; unfold Fc at q; omega))
theorem Pw_P (hpa : p + 8 ≤ a ∨ a + 111 ≤ p) (hC : PrC I p Rs) {I1 : Nat → Nat → Int32} (h : Sm (Pw a p) I I1) : PrC I1 p Rs :=
  hC.loc (fun b j q1 q2 => h b j (by unfold Pw Pp; omega))
theorem weigh_loop {i : Nat} (hA5 : At5 sh R a) (hA : At3 sh R p) (hpa : p + 8 ≤ a ∨ a + 111 ≤ p) (hVs : V_sheet n T) (hCs : C_sheet I a T) (hV : V_prc Rs) (hC : PrC I p Rs) (hi : i < yN T) : ∀ j k (I1 : Nat → Nat → Int32), k + j = yA T + 1 → Sm (Pw a p) I I1 → I1 a 12 = (eaS Rs T i k).2.1 → I1 a 13 = (eaS Rs T i k).2.2 → s_X5_weigh_18 γ l a (nI i) p (eaS Rs T i k).1 (nI j - 1) (sh, I1, J, R) (fun hf v => ∃ I', hf = (sh, I', J, R) ∧ v = none ∧ (Sm (Pw a p) I I' ∧ I' a 12 = (eaS Rs T i (yA T + 1)).2.1 ∧ I' a 13 = (eaS Rs T i (yA T + 1)).2.2)) := by
  have h16 := hVs.2.2.1
  intro j
  induction j with
  | zero =>
    intro k I1 hk hS e12 e13
    have e : k = yA T + 1 := by omega
    subst e
    exact w_X5_weigh_18 hA5 hA ⟨fun _ => ⟨I1, rfl, rfl, hS, e12, e13⟩, fun z => absurd (by decide) z⟩
  | succ j ih =>
    intro k I1 hk hS e12 e13
    have ej : j = yA T - k := by omega
    have hj : j ≤ yA T := by omega
    rw [nI_pred]
    obtain ⟨hP, hN⟩ := hVs.2.2.2.2.2.1 j hj
    have hB := At5_p hA5 j (by omega)
    have em1 : nI j + (-1 : Int32) = nI j - 1 := by
      rw [Int32.sub_eq_add_neg]
    have go68 : ∀ (sg : Int32) (I2 : Nat → Nat → Int32), sg = sgJ Rs T j i → Sm (Pw a p) I I2 → I2 a 12 = (eaS Rs T i k).2.1 → I2 a 13 = (eaS Rs T i k).2.2 → s_X5_weigh_68 γ l a (nI i) p (suA Rs T k (eaS Rs T i k).1) (nI j) sg (sh, I2, J, R) (fun hf v => ∃ I', hf = (sh, I', J, R) ∧ v = none ∧ (Sm (Pw a p) I I' ∧ I' a 12 = (eaS Rs T i (yA T + 1)).2.1 ∧ I' a 13 = (eaS Rs T i (yA T + 1)).2.2)) := by
      intro sg I2 hsg hS2 f12 f13
      have hst := eaS_s (Rs := Rs) (T := T) (i := i) (k := k)
      rw [← ej, ← hsg] at hst
      have e1 : I2 a 1 = nI (yA T) := (Pw_C hVs hCs hpa hS2).1.2.1
      have keep : eaS Rs T i (k + 1) = (suA Rs T k (eaS Rs T i k).1, (eaS Rs T i k).2) → s_X5_weigh_18 γ l a (nI i) p (suA Rs T k (eaS Rs T i k).1) (nI j + (-1 : Int32)) (sh, I2, J, R) (fun hf v => ∃ I', hf = (sh, I', J, R) ∧ v = none ∧ (Sm (Pw a p) I I' ∧ I' a 12 = (eaS Rs T i (yA T + 1)).2.1 ∧ I' a 13 = (eaS Rs T i (yA T + 1)).2.2)) := by
        intro h
        have := ih (k + 1) I2 (by omega) hS2 (by rw [h]; exact f12) (by rw [h]; exact f13)
        rw [h] at this
        rw [em1]
        exact this
      have take : eaS Rs T i (k + 1) = (suA Rs T k (eaS Rs T i k).1, suA Rs T k (eaS Rs T i k).1 + sg, nI k) → s_X5_weigh_95 γ l a (nI i) p (suA Rs T k (eaS Rs T i k).1) (nI j) sg (sh, I2, J, R) (fun hf v => ∃ I', hf = (sh, I', J, R) ∧ v = none ∧ (Sm (Pw a p) I I' ∧ I' a 12 = (eaS Rs T i (yA T + 1)).2.1 ∧ I' a 13 = (eaS Rs T i (yA T + 1)).2.2)) := by
        intro h
        refine w_X5_weigh_95 hA5 hA ?_
        rw [show up I2 a 12 (suA Rs T k (eaS Rs T i k).1 + sg) a 1 = nI (yA T) from by rw [up_at, if_neg (by omega)]; exact e1, pk_sub hj, show yA T - j = k by omega]
        have := ih (k + 1) (up (up I2 a 12 (suA Rs T k (eaS Rs T i k).1 + sg)) a 13 (nI k)) (by omega) ((hS2.up (Or.inr ⟨rfl, Or.inl rfl⟩)).up (Or.inr ⟨rfl, Or.inr rfl⟩)) (by rw [h, up_at, if_neg (by omega), up_at, if_pos ⟨rfl, rfl⟩]) (by rw [h, up_at, if_pos ⟨rfl, rfl⟩])
        rw [h] at this
        rw [em1]
        exact this
      refine w_X5_weigh_68 hA5 hA ?_
      rw [f12]
      refine ⟨fun z => keep ?_, fun z => ⟨fun y => take ?_, fun y => ⟨fun x => keep ?_, fun x => take ?_⟩⟩⟩
      · rw [hst, if_pos z]
      · rw [hst, if_neg z, if_pos (Or.inl y)]
      · rw [hst, if_neg z, if_neg]
        intro t
        rcases t with t | t
        · exact y t
        · exact Int32.not_lt.mpr x t
      · rw [hst, if_neg z, if_pos (Or.inr (Int32.not_le.mp x))]
    have go42 : ∀ (I2 : Nat → Nat → Int32), Sm (Pw a p) I I2 → I2 a 12 = (eaS Rs T i k).2.1 → I2 a 13 = (eaS Rs T i k).2.2 → s_X5_weigh_42 γ l a (nI i) p (suA Rs T k (eaS Rs T i k).1) (nI j) (sh, I2, J, R) (fun hf v => ∃ I', hf = (sh, I', J, R) ∧ v = none ∧ (Sm (Pw a p) I I' ∧ I' a 12 = (eaS Rs T i (yA T + 1)).2.1 ∧ I' a 13 = (eaS Rs T i (yA T + 1)).2.2)) := by
      intro I2 hS2 f12 f13
      have hCs2 := Pw_C hVs hCs hpa hS2
      have hC2 := Pw_P (a := a) hpa hC hS2
      refine w_X5_weigh_42 hA5 hA ⟨vp_in_nI (by omega) (by decide), a + 9 + 6 * j, by rw [nI_clamp (by omega)]; exact hB.1, hB.2, _, ct_canBeRead hB.2 hP (hCs2.2.2.1 j hj) (by omega), fun z => ?_, fun z => ?_⟩
      · rw [bz_0] at z
        obtain ⟨I3, d1, d2⟩ := ct_peepPrice (γ := γ) (l := l) (J := J) hA5 hA hVs hCs2 hV hC2 hj hi
        refine ⟨I3, _, d1, go68 _ I3 ?_ (hS2.tr (d2.mono (fun b j t => Or.inl t))) ?_ ?_⟩
        · unfold sgJ; rw [if_neg z]
        · rw [d2 _ _ (by unfold Pp; omega)]; exact f12
        · rw [d2 _ _ (by unfold Pp; omega)]; exact f13
      · rw [bz_0, Classical.not_not] at z
        exact go68 _ I2 (by unfold sgJ; rw [if_pos z]) hS2 f12 f13
    have hCs1 := Pw_C hVs hCs hpa hS
    have hC1 := Pw_P (a := a) hpa hC hS
    refine w_X5_weigh_18 hA5 hA ⟨fun z => absurd z (nI_pos (by omega)), fun _ => ?_⟩
    rw [hCs1.1.2.1, nI_leI (by omega) (by omega)]
    refine ⟨fun z => ?_, fun z => ?_⟩
    · have hk0 : k = 0 := by omega
      have := go42 I1 hS e12 e13
      unfold suA at this
      rw [if_pos hk0] at this
      exact this
    · obtain ⟨I2, d1, d2⟩ := ct_harmOf (γ := γ) (l := l) (J := J) (i := j) hA5 hA hpa hVs hCs1 hV hC1 (by omega)
      refine ⟨I2, _, d1, ?_⟩
      have := go42 I2 (hS.tr (d2.mono (fun b j t => Or.inl t))) (by rw [d2 _ _ (by unfold Pp; omega)]; exact e12) (by rw [d2 _ _ (by unfold Pp; omega)]; exact e13)
      unfold suA at this
      rw [if_neg (by omega), ← ej] at this
      exact this
theorem ct_weigh {i : Nat} (hA5 : At5 sh R a) (hA : At3 sh R p) (hpa : p + 8 ≤ a ∨ a + 111 ≤ p) (hVs : V_sheet n T) (hCs : C_sheet I a T) (hV : V_prc Rs) (hC : PrC I p Rs) (hi : i < yN T) :
    ∃ I', rMet γ l m_X5_weigh [.ref a, .int (nI i), .ref p] (sh, I, J, R) (sh, I', J, R) none ∧ Sm (Pw a p) I I' ∧ I' a 12 = (eaS Rs T i (yA T + 1)).2.1 ∧ I' a 13 = (eaS Rs T i (yA T + 1)).2.2 := by
  have lp := weigh_loop (γ := γ) (l := l) (J := J) hA5 hA hpa hVs hCs hV hC hi (yA T + 1) 0 (up (up I a 12 (-1)) a 13 (-1)) (by omega) ((Sm.rf.up (Or.inr ⟨rfl, Or.inl rfl⟩)).up (Or.inr ⟨rfl, Or.inr rfl⟩)) (by rw [up_at, if_neg (by omega), up_at, if_pos ⟨rfl, rfl⟩]; rfl) (by rw [up_at, if_pos ⟨rfl, rfl⟩]; rfl)
  rw [nI_pred] at lp
  have key : s_X5_weigh_0 γ l a (nI i) p (sh, I, J, R) (fun hf v => ∃ I', hf = (sh, I', J, R) ∧ v = none ∧ (Sm (Pw a p) I I' ∧ I' a 12 = (eaS Rs T i (yA T + 1)).2.1 ∧ I' a 13 = (eaS Rs T i (yA T + 1)).2.2)) := by
    refine w_X5_weigh_0 hA5 hA ?_
    rw [show up (up I a 12 (-1)) a 13 (-1) a 1 = nI (yA T) from by rw [up_at, if_neg (by omega), up_at, if_neg (by omega)]; exact hCs.1.2.1]
    exact lp
  obtain ⟨I', h1, h2⟩ := rW_ex key
  exact ⟨I', e_X5_weigh h1, h2⟩
theorem Fs_M (hVs : V_sheet n T) (hMs : M_sheet I m T) {I1 : Nat → Nat → Int32} (h : Sm (Fs m) I I1) : M_sheet I1 m T :=
  hMs.loc hVs (fun b j q _ => h b j (by unfold Fs; unfold Fm at q; omega))
theorem Fs_P (hM : PrM I m s Rs) {I1 : Nat → Nat → Int32} (h : Sm (Fs m) I I1) : PrM I1 m s Rs :=
  hM.loc (fun b j q1 q2 => h b j (by unfold Fs; omega))
theorem ease_loop {i : Nat} (hA : At9 sh R m) (hVs : V_sheet n T) (hMs : M_sheet I m T) (hV : V_prc Rs) (hM : PrM I m s Rs) (h18 : I m 18 = nI s) (hi : i < yN T) : ∀ j k (I1 : Nat → Nat → Int32), k + j = yA T + 1 → Sm (Fs m) I I1 → (¬ (eaS Rs T i k).2.1 = -1 → I1 m 55 = (eaS Rs T i k).2.2) → s_X9_easeOf_7 γ l m (nI i) (eaS Rs T i k).2.1 (eaS Rs T i k).1 (nI k) (sh, I1, J, R) (fun hf v => ∃ I', hf = (sh, I', J, R) ∧ v = some (.int (eaS Rs T i (yA T + 1)).2.1) ∧ (Sm (Fs m) I I' ∧ (¬ (eaS Rs T i (yA T + 1)).2.1 = -1 → I' m 55 = (eaS Rs T i (yA T + 1)).2.2))) := by
  have h16 := hVs.2.2.1
  intro j
  induction j with
  | zero =>
    intro k I1 hk hS e55
    have e : k = yA T + 1 := by omega
    subst e
    refine w_X9_easeOf_7 hA ⟨fun _ => ⟨I1, rfl, rfl, hS, e55⟩, fun z => absurd ?_ z⟩
    rw [(Fs_M hVs hMs hS).1.2]; exact nI_lt (by omega) (by omega)
  | succ j ih =>
    intro k I1 hk hS e55
    have hka : k ≤ yA T := by omega
    obtain ⟨hP, hN⟩ := hVs.2.2.2.2.2.1 (yA T - k) (by omega)
    have go65 : ∀ (sg : Int32) (I2 : Nat → Nat → Int32), sg = sgJ Rs T (yA T - k) i → Sm (Fs m) I I2 → (¬ (eaS Rs T i k).2.1 = -1 → I2 m 55 = (eaS Rs T i k).2.2) → s_X9_easeOf_65 γ l m (nI i) (eaS Rs T i k).2.1 (suA Rs T k (eaS Rs T i k).1) (nI k) sg (sh, I2, J, R) (fun hf v => ∃ I', hf = (sh, I', J, R) ∧ v = some (.int (eaS Rs T i (yA T + 1)).2.1) ∧ (Sm (Fs m) I I' ∧ (¬ (eaS Rs T i (yA T + 1)).2.1 = -1 → I' m 55 = (eaS Rs T i (yA T + 1)).2.2))) := by
      intro sg I2 hsg hS2 f55
      have hst := eaS_s (Rs := Rs) (T := T) (i := i) (k := k)
      rw [← hsg] at hst
      have keep : eaS Rs T i (k + 1) = (suA Rs T k (eaS Rs T i k).1, (eaS Rs T i k).2) → s_X9_easeOf_7 γ l m (nI i) (eaS Rs T i k).2.1 (suA Rs T k (eaS Rs T i k).1) (nI k + 1) (sh, I2, J, R) (fun hf v => ∃ I', hf = (sh, I', J, R) ∧ v = some (.int (eaS Rs T i (yA T + 1)).2.1) ∧ (Sm (Fs m) I I' ∧ (¬ (eaS Rs T i (yA T + 1)).2.1 = -1 → I' m 55 = (eaS Rs T i (yA T + 1)).2.2))) := by
        intro h
        have := ih (k + 1) I2 (by omega) hS2 (by rw [h]; exact f55)
        rw [h] at this
        rw [nI_1]
        exact this
      have take : eaS Rs T i (k + 1) = (suA Rs T k (eaS Rs T i k).1, suA Rs T k (eaS Rs T i k).1 + sg, nI k) → s_X9_easeOf_7 γ l m (nI i) (suA Rs T k (eaS Rs T i k).1 + sg) (suA Rs T k (eaS Rs T i k).1) (nI k + 1) (sh, up I2 m 55 (nI k), J, R) (fun hf v => ∃ I', hf = (sh, I', J, R) ∧ v = some (.int (eaS Rs T i (yA T + 1)).2.1) ∧ (Sm (Fs m) I I' ∧ (¬ (eaS Rs T i (yA T + 1)).2.1 = -1 → I' m 55 = (eaS Rs T i (yA T + 1)).2.2))) := by
        intro h
        have := ih (k + 1) (up I2 m 55 (nI k)) (by omega) (hS2.up (Or.inr (Or.inr ⟨rfl, Or.inr rfl⟩))) (by rw [h]; intro _; rw [up_at, if_pos ⟨rfl, rfl⟩])
        rw [h] at this
        rw [nI_1]
        exact this
      refine w_X9_easeOf_65 hA ⟨fun z => keep ?_, fun z => ⟨fun y => take ?_, fun y => ⟨fun x => take ?_, fun x => keep ?_⟩⟩⟩
      · rw [hst, if_pos z]
      · rw [hst, if_neg z, if_pos (Or.inl y)]
      · rw [hst, if_neg z, if_pos (Or.inr x)]
      · rw [hst, if_neg z, if_neg]
        intro t
        rcases t with t | t
        · exact y t
        · exact x t
    have go35 : ∀ (I2 : Nat → Nat → Int32), Sm (Fs m) I I2 → (¬ (eaS Rs T i k).2.1 = -1 → I2 m 55 = (eaS Rs T i k).2.2) → s_X9_easeOf_35 γ l m (nI i) (eaS Rs T i k).2.1 (suA Rs T k (eaS Rs T i k).1) (nI k) (sh, I2, J, R) (fun hf v => ∃ I', hf = (sh, I', J, R) ∧ v = some (.int (eaS Rs T i (yA T + 1)).2.1) ∧ (Sm (Fs m) I I' ∧ (¬ (eaS Rs T i (yA T + 1)).2.1 = -1 → I' m 55 = (eaS Rs T i (yA T + 1)).2.2))) := by
      intro I2 hS2 f55
      have hMs2 := Fs_M hVs hMs hS2
      have hM2 := Fs_P hM hS2
      refine w_X9_easeOf_35 hA ?_
      rw [hMs2.1.2, pk_sub hka]
      refine ⟨_, ct_isRead hA (by omega) hP (hMs2.2.2.2.1 (yA T - k) (by omega)) (by omega), fun z => ?_, fun z => ?_⟩
      · rw [bz_0] at z
        obtain ⟨I3, d1, d2⟩ := cm_peepOf (γ := γ) (l := l) (J := J) (left := yA T - k) hA hVs hMs2 hV hM2 ((hS2 m 18 (by unfold Fs; omega)).trans h18) (by omega) hi
        refine ⟨I3, _, d1, go65 _ I3 ?_ (hS2.tr (d2.mono (fun b j t => t.elim Or.inl (fun t => Or.inr (Or.inl t))))) (fun t => ?_)⟩
        · unfold sgJ; rw [if_neg z]
        · rw [d2 _ _ (by omega)]; exact f55 t
      · rw [bz_0, Classical.not_not] at z
        exact go65 _ I2 (by unfold sgJ; rw [if_pos z]) hS2 f55
    have hMs1 := Fs_M hVs hMs hS
    have hM1 := Fs_P hM hS
    refine w_X9_easeOf_7 hA ?_
    rw [hMs1.1.2]
    refine ⟨fun z => absurd z (nI_nlt hka (by omega)), fun _ => ⟨fun z => ?_, fun z => ?_⟩⟩
    · have hk0 : k = 0 := by
        rcases Nat.eq_zero_or_pos k with q | q
        · exact q
        · exact absurd z (nI_nle q (by omega))
      have := go35 I1 hS e55
      unfold suA at this
      rw [if_pos hk0] at this
      exact this
    · have hk0 : k ≠ 0 := fun t => z (by rw [t]; decide)
      rw [pk_sub hka]
      obtain ⟨I2, d1, d2, d3⟩ := cm_harmOf (γ := γ) (l := l) (J := J) (i := yA T - k) hA hVs hMs1 hV hM1 ((hS m 18 (by unfold Fs; omega)).trans h18) (by omega)
      refine ⟨I2, _, d1, ?_⟩
      have := go35 I2 (hS.tr (d3.mono (fun b j t => t.1))) (fun t => by rw [d3 _ _ (by unfold Fs; omega)]; exact e55 t)
      unfold suA at this
      rw [if_neg hk0] at this
      exact this
theorem cm_easeOf {i : Nat} (hA : At9 sh R m) (hVs : V_sheet n T) (hMs : M_sheet I m T) (hV : V_prc Rs) (hM : PrM I m s Rs) (h18 : I m 18 = nI s) (hi : i < yN T) :
    ∃ I', rMet γ l m_X9_easeOf [.ref m, .int (nI i)] (sh, I, J, R) (sh, I', J, R) (some (.int (eaS Rs T i (yA T + 1)).2.1)) ∧ Sm (Fs m) I I' ∧ (¬ (eaS Rs T i (yA T + 1)).2.1 = -1 → I' m 55 = (eaS Rs T i (yA T + 1)).2.2) := by
  have lp := ease_loop (γ := γ) (l := l) (J := J) hA hVs hMs hV hM h18 hi (yA T + 1) 0 I (by omega) Sm.rf (fun t => absurd rfl t)
  obtain ⟨I', h1, h2⟩ := rW_ex (w_X9_easeOf_0 hA lp)
  exact ⟨I', e_X9_easeOf h1, h2⟩
/-! the sum of all harms -/
def smH (Rs : List Rul) (T : Sht) : Nat → Int32
  | 0 => 0
  | k + 1 => smH Rs T k + hvA Rs T k
theorem ct_harmOfAll (hA5 : At5 sh R a) (hA : At3 sh R p) (hpa : p + 8 ≤ a ∨ a + 111 ≤ p) (hVs : V_sheet n T) (hCs : C_sheet I a T) (hV : V_prc Rs) (hC : PrC I p Rs) :
    ∃ I', rMet γ l m_X5_harmOfAll [.ref a, .ref p] (sh, I, J, R) (sh, I', J, R) (some (.int (smH Rs T (yA T)))) ∧ Sm (Pw a p) I I' := by
  have h16 := hVs.2.2.1
  have lp : ∀ j k (I1 : Nat → Nat → Int32), k + j = yA T → Sm (Pw a p) I I1 → s_X5_harmOfAll_4 γ l a p (smH Rs T k) (nI k) (sh, I1, J, R) (fun hf v => ∃ I', hf = (sh, I', J, R) ∧ v = some (.int (smH Rs T (yA T))) ∧ Sm (Pw a p) I I') := by
    intro j
    induction j with
    | zero =>
      intro k I1 hk hS
      have e : k = yA T := by omega
      subst e
      refine w_X5_harmOfAll_4 hA5 hA ⟨fun _ => ⟨I1, rfl, rfl, hS⟩, fun z => absurd ?_ z⟩
      rw [(Pw_C hVs hCs hpa hS).1.2.1]; exact nI_le (Nat.le_refl _) (by omega)
    | succ j ih =>
      intro k I1 hk hS
      obtain ⟨I2, d1, d2⟩ := ct_harmOf (γ := γ) (l := l) (J := J) (i := k) hA5 hA hpa hVs (Pw_C hVs hCs hpa hS) hV (Pw_P (a := a) hpa hC hS) (by omega)
      have := ih (k + 1) I2 (by omega) (hS.tr (d2.mono (fun b j t => Or.inl t)))
      refine w_X5_harmOfAll_4 hA5 hA ⟨fun z => absurd z ?_, fun _ => ⟨I2, _, d1, ?_⟩⟩
      · rw [(Pw_C hVs hCs hpa hS).1.2.1]; exact nI_ge (by omega) (by omega)
      · rw [nI_1]; exact this
  obtain ⟨I', h1, h2⟩ := rW_ex (w_X5_harmOfAll_0 hA5 hA (lp (yA T) 0 I (by omega) Sm.rf))
  exact ⟨I', e_X5_harmOfAll h1, h2⟩
theorem mcount_loop (hA : At9 sh R m) (hVs : V_sheet n T) (hMs : M_sheet I m T) (hV : V_prc Rs) (hM : PrM I m s Rs) (h18 : I m 18 = nI s) : ∀ j k (I1 : Nat → Nat → Int32), k + j = yA T → Sm (Fs m) I I1 → s_X9_count_91 γ l m (smH Rs T k) (nI k) (sh, I1, J, R) (fun hf v => ∃ I', hf = (sh, I', J, R) ∧ v = some (.int (smH Rs T (yA T))) ∧ Sm (Fs m) I I') := by
  have h16 := hVs.2.2.1
  intro j
  induction j with
  | zero =>
    intro k I1 hk hS
    have e : k = yA T := by omega
    subst e
    refine w_X9_count_91 hA ⟨fun _ => ⟨I1, rfl, rfl, hS⟩, fun z => absurd ?_ z⟩
    rw [(Fs_M hVs hMs hS).1.2]; exact nI_le (Nat.le_refl _) (by omega)
  | succ j ih =>
    intro k I1 hk hS
    obtain ⟨I2, d1, d2, d3⟩ := cm_harmOf (γ := γ) (l := l) (J := J) (i := k) hA hVs (Fs_M hVs hMs hS) hV (Fs_P hM hS) ((hS m 18 (by unfold Fs; omega)).trans h18) (by omega)
    have := ih (k + 1) I2 (by omega) (hS.tr (d3.mono (fun b j t => t.1)))
    refine w_X9_count_91 hA ⟨fun z => absurd z ?_, fun _ => ⟨I2, _, d1, ?_⟩⟩
    · rw [(Fs_M hVs hMs hS).1.2]; exact nI_ge (by omega) (by omega)
    · rw [nI_1]; exact this
theorem ct_sightOf {i : Nat} (hA5 : At5 sh R a) (hA : At3 sh R p) (hVs : V_sheet n T) (hCs : C_sheet I a T) (hV : V_prc Rs) (hC : PrC I p Rs) (hi : i < yN T) :
    ∃ I', rMet γ l m_X5_sightOf [.ref a, .int (nI i), .ref p] (sh, I, J, R) (sh, I', J, R) (some (.int (@ite _ (rdP (nowP T) i) (Classical.propDecidable _) 1 (if ppJ Rs T (yA T) i = -1 then 0 else 2)))) ∧ Sm (Pp p) I I' := by
  obtain ⟨hP, hN⟩ := V_now hVs
  have h16 := hVs.2.2.1
  have hB := (At5_p hA5 (yA T) (by omega)).2
  obtain ⟨I2, d1, d2⟩ := ct_peepPrice (γ := γ) (l := l) (J := J) hA5 hA hVs hCs hV hC (Nat.le_refl _) hi
  have key : s_X5_sightOf_0 γ l a (nI i) p (sh, I, J, R) (fun hf v => ∃ I', hf = (sh, I', J, R) ∧ v = some (.int (@ite _ (rdP (nowP T) i) (Classical.propDecidable _) 1 (if ppJ Rs T (yA T) i = -1 then 0 else 2))) ∧ Sm (Pp p) I I') := by
    refine w_X5_sightOf_0 hA5 hA ⟨_, ct_packet hA5 h16 hCs.1.2.1, hB, _, ct_canBeRead hB hP (C_now hCs) (by omega), ?_⟩
    rw [hCs.1.2.1, bz_0]
    refine ⟨fun z => ⟨I2, _, d1, fun y => ⟨I2, rfl, ?_, d2⟩, fun y => ⟨I2, rfl, ?_, d2⟩⟩, fun z => ⟨I, rfl, ?_, Sm.rf⟩⟩
    · rw [if_neg z, if_pos y]
    · rw [if_neg z, if_neg y]
    · rw [if_pos (Classical.byContradiction z)]
  obtain ⟨I', h1, h2⟩ := rW_ex key
  exact ⟨I', e_X5_sightOf h1, h2⟩
end EAS
