/-! ===== the way: what is known, and its costs; the class ===== -/
def ocN (Rs : List Rul) (ho : Nat → Nat) (d : Nat) : Nat := (fwJ (vr5 7 0 (nI d) (nI (ho d)) 0) 4 10 Rs).toNatClampNeg
def scN (Rs : List Rul) (ho : Nat → Nat) (d : Nat) : Nat := (fwJ (vr5 8 0 (nI d) (nI (ho d)) 0) 4 10 Rs).toNatClampNeg
def dcN (Rs : List Rul) (ho ld wh : Nat → Nat) (i : Nat) : Nat := (fwJ (vr5 9 0 (nI (ld i)) (nI (ho (ld i))) (nI (wh i))) 5 10 Rs).toNatClampNeg
theorem fw10 {vr : Nat → Int32} {s : Nat} {Rs : List Rul} : fwJ vr s 10 Rs = nI (fwJ vr s 10 Rs).toNatClampNeg ∧ (fwJ vr s 10 Rs).toNatClampNeg ≤ 1000 := by
  have h : ∃ k : Nat, k ≤ 1000 ∧ fwJ vr s 10 Rs = nI k := by
    unfold fwJ
    split
    · exact ⟨10, by omega, by decide⟩
    · exact hld_nat _
  obtain ⟨k, hk, e⟩ := h
  rw [e, nI_clamp (by omega)]
  exact ⟨rfl, hk⟩
def dbN (dc ld wh : Nat → Nat) : Nat → Nat → Nat → Nat
  | 0, _, _ => 0
  | n + 1, d, s => dbN dc ld wh n d s + (if ld n = d ∧ ¬ wh n = s then dc n else 0)
theorem dbN_le {dc ld wh : Nat → Nat} : ∀ n, (∀ i, i < n → dc i ≤ 1000) → ∀ d s, dbN dc ld wh n d s ≤ 1000 * n := by
  intro n
  induction n with
  | zero => intro _ d s; exact Nat.le_refl 0
  | succ n ih =>
    intro h d s
    have h1 := ih (fun i hi => h i (by omega)) d s
    have h2 := h n (by omega)
    simp only [dbN]
    split <;> omega
/-- hands and looks, as the class holds them -/
def WyC (I : Nat → Nat → Int32) (a H D K : Nat) (ho ld wh : Nat → Nat) : Prop := (H ≤ 6 ∧ D ≤ 36 ∧ K ≤ 40) ∧ (I a 0 = nI H ∧ I a 1 = nI D ∧ I a 2 = nI K) ∧ (∀ j, j < D → I (a + 1) j = nI (ho j) ∧ ho j < H) ∧ ∀ j, j < K → I (a + 2) j = nI (ld j) ∧ I (a + 3) j = nI (wh j) ∧ ld j < D ∧ wh j < 3
theorem WyC.loc {I I' : Nat → Nat → Int32} {a H D K : Nat} {ho ld wh : Nat → Nat} (h : WyC I a H D K ho ld wh) (hq : ∀ b j, (b = a ∧ j < 3) ∨ b = a + 1 ∨ b = a + 2 ∨ b = a + 3 → I' b j = I b j) : WyC I' a H D K ho ld wh := by
  obtain ⟨h1, ⟨h2, h3, h4⟩, h5, h6⟩ := h
  refine ⟨h1, ⟨(hq _ _ (by omega)).trans h2, (hq _ _ (by omega)).trans h3, (hq _ _ (by omega)).trans h4⟩, fun j hj => ⟨(hq _ _ (by omega)).trans (h5 j hj).1, (h5 j hj).2⟩, fun j hj => ?_⟩
  obtain ⟨q1, q2, q3, q4⟩ := h6 j hj
  exact ⟨(hq _ _ (by omega)).trans q1, (hq _ _ (by omega)).trans q2, q3, q4⟩
def CoC (I : Nat → Nat → Int32) (a D K : Nat) (oc sc dc : Nat → Nat) : Prop := (∀ d, d < D → I (a + 4) d = nI (oc d) ∧ I (a + 5) d = nI (sc d)) ∧ ∀ i, i < K → I (a + 6) i = nI (dc i)
theorem CoC.loc {I I' : Nat → Nat → Int32} {a D K : Nat} {oc sc dc : Nat → Nat} (h : CoC I a D K oc sc dc) (hq : ∀ b j, b = a + 4 ∨ b = a + 5 ∨ b = a + 6 → I' b j = I b j) : CoC I' a D K oc sc dc :=
  ⟨fun d hd => ⟨(hq _ _ (by omega)).trans (h.1 d hd).1, (hq _ _ (by omega)).trans (h.1 d hd).2⟩, fun i hi => (hq _ _ (by omega)).trans (h.2 i hi)⟩
def Pco (a p b j : Nat) : Prop := (b = a ∧ j = 3) ∨ b = a + 4 ∨ b = a + 5 ∨ b = a + 6 ∨ b = p + 6 ∨ b = p + 7
section KNW
variable {γ : rG} {l : Launch} {sh : Nat × (Nat → Nat) × (Nat → Nat)} {I : Nat → Nat → Int32} {J : Nat → Nat → Int64} {R : Nat → Nat → Option Nat} {a p H D K : Nat} {ho ld wh : Nat → Nat} {Rs : List Rul}
/-- one price asked for: vars set, the first rule's worth, laid into a row -/
theorem ask_c {x1 x2 x3 x4 x5 : Int32} {srt : Nat} (hA3 : At3 sh R p) (hV : V_prc Rs) (hC : PrC I p Rs) (hs : srt < 2 ^ 31) :
    ∃ I1 I2, rMet γ l m_X3_setVars [.ref p, .int x1, .int x2, .int x3, .int x4, .int x5] (sh, I, J, R) (sh, I1, J, R) none ∧ rMet γ l m_X3_worthOfFirst [.ref p, .int (nI srt), .int 10] (sh, I1, J, R) (sh, I2, J, R) (some (.int (fwJ (vr5 x1 x2 x3 x4 x5) srt 10 Rs))) ∧ Sm (Pp p) I I2 := by
  have hC1 : PrC (vsI I (p + 6) x1 x2 x3 x4 x5) p Rs := hC.loc (fun b j q1 q2 => vsI_sm b j (by omega))
  obtain ⟨I2, d1, d2⟩ := ct_worthOfFirst (γ := γ) (l := l) (J := J) (vr := vr5 x1 x2 x3 x4 x5) (srt := srt) (wo := 10) hA3 hV hC1 hs (fun j hj => vsI_at j hj)
  exact ⟨_, I2, ct_setVars hA3, d1, fun b j w => by unfold Pp at w; rw [d2 b j (by omega), vsI_sm b j (by omega)]⟩
theorem costs2 (hA : At7 sh R a) (hA3 : At3 sh R p) (hpa : p + 8 ≤ a ∨ a + 11 ≤ p) (hV : V_prc Rs) (hC : PrC I p Rs) (hW : WyC I a H D K ho ld wh) : ∀ j k (I1 : Nat → Nat → Int32), k + j = K → Sm (Pco a p) I I1 → I1 a 3 = 1 → (∀ d, d < D → I1 (a + 4) d = nI (ocN Rs ho d) ∧ I1 (a + 5) d = nI (scN Rs ho d)) → (∀ i, i < k → I1 (a + 6) i = nI (dcN Rs ho ld wh i)) → s_X7_setCosts_87 γ l a p (nI k) (sh, I1, J, R) (fun hf v => ∃ I', hf = (sh, I', J, R) ∧ v = none ∧ (Sm (Pco a p) I I' ∧ I' a 3 = 1 ∧ CoC I' a D K (ocN Rs ho) (scN Rs ho) (dcN Rs ho ld wh))) := by
  obtain ⟨⟨b1, b2, b3⟩, ⟨w1, w2, w3⟩, w4, w5⟩ := id hW
  intro j
  induction j with
  | zero =>
    intro k I1 hk hS h3 hd hi
    have e : k = K := by omega
    subst e
    refine w_X7_setCosts_87 hA hA3 ⟨fun _ => ⟨I1, rfl, rfl, hS, h3, hd, hi⟩, fun z => absurd ?_ z⟩
    rw [hS a 2 (by unfold Pco; omega), w3]; exact nI_le (Nat.le_refl _) (by omega)
  | succ j ih =>
    intro k I1 hk hS h3 hd hi
    obtain ⟨q1, q2, q3, q4⟩ := w5 k (by omega)
    have hv : vp_in (nI k) 40 := vp_in_nI (by omega) (by decide)
    have o1 : I1 (a + 2) k = nI (ld k) := (hS _ _ (by unfold Pco; omega)).trans q1
    have o2 : I1 (a + 3) k = nI (wh k) := (hS _ _ (by unfold Pco; omega)).trans q2
    have o3 : I1 (a + 1) (ld k) = nI (ho (ld k)) := (hS _ _ (by unfold Pco; omega)).trans (w4 (ld k) q3).1
    have hC1 : PrC I1 p Rs := hC.loc (fun b j q1 q2 => hS b j (by unfold Pco; omega))
    obtain ⟨I2, I3, c1, c2, c3⟩ := ask_c (γ := γ) (l := l) (J := J) (x1 := 9) (x2 := 0) (x3 := nI (ld k)) (x4 := nI (ho (ld k))) (x5 := nI (wh k)) (srt := 5) hA3 hV hC1 (by decide)
    refine w_X7_setCosts_87 hA hA3 ⟨fun z => absurd z ?_, fun _ => ⟨hv, hv, ?_⟩⟩
    · rw [hS a 2 (by unfold Pco; omega), w3]; exact nI_ge (by omega) (by omega)
    · rw [nI_clamp (show k < 2 ^ 31 by omega), o1, o2, nI_clamp (show ld k < 2 ^ 31 by omega), o3, nI_1]
      refine ⟨vp_in_nI (by omega) (by decide), hv, I2, c1, I3, _, c2, hv, ih (k + 1) _ (by omega) ((hS.tr (c3.mono (fun b j q => by unfold Pp at q; unfold Pco; omega))).up (by unfold Pco; omega)) ?_ (fun d hd2 => ⟨?_, ?_⟩) (fun i hi2 => ?_)⟩
      · rw [up_at, if_neg (by omega), c3 _ _ (by unfold Pp; omega)]; exact h3
      · rw [up_at, if_neg (by omega), c3 _ _ (by unfold Pp; omega)]; exact (hd d hd2).1
      · rw [up_at, if_neg (by omega), c3 _ _ (by unfold Pp; omega)]; exact (hd d hd2).2
      · by_cases e : i = k
        · subst e; rw [up_at, if_pos ⟨rfl, rfl⟩]; exact fw10.1
        · rw [up_at, if_neg (by omega), c3 _ _ (by unfold Pp; omega)]; exact hi i (by omega)
theorem costs1 (hA : At7 sh R a) (hA3 : At3 sh R p) (hpa : p + 8 ≤ a ∨ a + 11 ≤ p) (hV : V_prc Rs) (hC : PrC I p Rs) (hW : WyC I a H D K ho ld wh) : ∀ j k (I1 : Nat → Nat → Int32), k + j = D → Sm (Pco a p) I I1 → I1 a 3 = 1 → (∀ d, d < k → I1 (a + 4) d = nI (ocN Rs ho d) ∧ I1 (a + 5) d = nI (scN Rs ho d)) → s_X7_setCosts_15 γ l a p (nI k) (sh, I1, J, R) (fun hf v => ∃ I', hf = (sh, I', J, R) ∧ v = none ∧ (Sm (Pco a p) I I' ∧ I' a 3 = 1 ∧ CoC I' a D K (ocN Rs ho) (scN Rs ho) (dcN Rs ho ld wh))) := by
  obtain ⟨⟨b1, b2, b3⟩, ⟨w1, w2, w3⟩, w4, w5⟩ := id hW
  intro j
  induction j with
  | zero =>
    intro k I1 hk hS h3 hd
    have e : k = D := by omega
    subst e
    refine w_X7_setCosts_15 hA hA3 ⟨fun _ => ?_, fun z => absurd ?_ z⟩
    · have := costs2 (γ := γ) (l := l) (J := J) hA hA3 hpa hV hC hW K 0 I1 (by omega) hS h3 hd (fun i hi => by omega)
      rw [nI_0] at this
      exact this
    · rw [hS a 1 (by unfold Pco; omega), w2]; exact nI_le (Nat.le_refl _) (by omega)
  | succ j ih =>
    intro k I1 hk hS h3 hd
    obtain ⟨q1, q2⟩ := w4 k (by omega)
    have hv : vp_in (nI k) 36 := vp_in_nI (by omega) (by decide)
    have hcl : (nI k).toNatClampNeg = k := nI_clamp (by omega)
    have o1 : I1 (a + 1) k = nI (ho k) := (hS _ _ (by unfold Pco; omega)).trans q1
    have hC1 : PrC I1 p Rs := hC.loc (fun b j q1 q2 => hS b j (by unfold Pco; omega))
    obtain ⟨I2, I3, c1, c2, c3⟩ := ask_c (γ := γ) (l := l) (J := J) (x1 := 7) (x2 := 0) (x3 := nI k) (x4 := nI (ho k)) (x5 := 0) (srt := 4) hA3 hV hC1 (by decide)
    have hC2 : PrC (up I3 (a + 4) k (fwJ (vr5 7 0 (nI k) (nI (ho k)) 0) 4 10 Rs)) p Rs := hC1.loc (fun b j q1 q2 => by rw [up_at, if_neg (by omega)]; exact c3 b j (by unfold Pp; omega))
    obtain ⟨I4, I5, e1, e2, e3'⟩ := ask_c (γ := γ) (l := l) (J := J) (x1 := 8) (x2 := 0) (x3 := nI k) (x4 := nI (ho k)) (x5 := 0) (srt := 4) hA3 hV hC2 (by decide)
    refine w_X7_setCosts_15 hA hA3 ⟨fun z => absurd z ?_, fun _ => ⟨hv, ?_⟩⟩
    · rw [hS a 1 (by unfold Pco; omega), w2]; exact nI_ge (by omega) (by omega)
    · rw [hcl, o1, nI_1]
      refine ⟨I2, c1, I3, _, c2, hv, hv, I4, ?_, I5, _, e2, hv, ih (k + 1) _ (by omega) ?_ ?_ (fun d hd2 => ⟨?_, ?_⟩)⟩
      · rw [up_at, if_neg (by omega), c3 _ _ (by unfold Pp; omega), o1]; exact e1
      · exact ((((hS.tr (c3.mono (fun b j q => by unfold Pp at q; unfold Pco; omega))).up (by unfold Pco; omega)).tr (e3'.mono (fun b j q => by unfold Pp at q; unfold Pco; omega))).up (by unfold Pco; omega))
      · rw [up_at, if_neg (by omega), e3' _ _ (by unfold Pp; omega), up_at, if_neg (by omega), c3 _ _ (by unfold Pp; omega)]; exact h3
      · rw [up_at, if_neg (by omega), e3' _ _ (by unfold Pp; omega)]
        by_cases e : d = k
        · subst e; rw [up_at, if_pos ⟨rfl, rfl⟩]; exact fw10.1
        · rw [up_at, if_neg (by omega), c3 _ _ (by unfold Pp; omega)]; exact (hd d (by omega)).1
      · by_cases e : d = k
        · subst e; rw [up_at, if_pos ⟨rfl, rfl⟩]; exact fw10.1
        · rw [up_at, if_neg (by omega), e3' _ _ (by unfold Pp; omega), up_at, if_neg (by omega), c3 _ _ (by unfold Pp; omega)]; exact (hd d (by omega)).2
theorem ct_setCosts (hA : At7 sh R a) (hA3 : At3 sh R p) (hpa : p + 8 ≤ a ∨ a + 11 ≤ p) (hV : V_prc Rs) (hC : PrC I p Rs) (hW : WyC I a H D K ho ld wh) (hc : I a 3 = 0 ∨ (I a 3 = 1 ∧ CoC I a D K (ocN Rs ho) (scN Rs ho) (dcN Rs ho ld wh))) :
    ∃ I', rMet γ l m_X7_setCosts [.ref a, .ref p] (sh, I, J, R) (sh, I', J, R) none ∧ Sm (Pco a p) I I' ∧ I' a 3 = 1 ∧ CoC I' a D K (ocN Rs ho) (scN Rs ho) (dcN Rs ho ld wh) := by
  have key : s_X7_setCosts_0 γ l a p (sh, I, J, R) (fun hf v => ∃ I', hf = (sh, I', J, R) ∧ v = none ∧ (Sm (Pco a p) I I' ∧ I' a 3 = 1 ∧ CoC I' a D K (ocN Rs ho) (scN Rs ho) (dcN Rs ho ld wh))) := by
    refine w_X7_setCosts_0 hA hA3 ⟨fun z => ?_, fun z => ⟨I, rfl, rfl, Sm.rf, ?_⟩⟩
    · have := costs1 (γ := γ) (l := l) (J := J) hA hA3 hpa hV hC hW D 0 (up I a 3 1) (by omega) (Sm.rf.up (Or.inl ⟨rfl, rfl⟩)) (by rw [up_at, if_pos ⟨rfl, rfl⟩]) (fun d hd => by omega)
      rw [nI_0] at this
      exact this
    · rcases hc with h | h
      · exact absurd h z
      · exact h
  obtain ⟨I', h1, h2⟩ := rW_ex key
  exact ⟨I', e_X7_setCosts h1, h2⟩
/-- doubts of all days -/
def DbC (I : Nat → Nat → Int32) (a : Nat) (db : Nat → Nat → Nat) : Prop := ∀ d s, d < 36 → s < 3 → I (a + 7) (3 * d + s) = nI (db d s)
theorem ct_addDoubt {i : Nat} {db : Nat → Nat → Nat} {dc : Nat → Nat} (hA : At7 sh R a) (hW : WyC I a H D K ho ld wh) (hi : i < K) (h6 : I (a + 6) i = nI (dc i)) (hD : DbC I a db) :
    ∃ I', rMet γ l m_X7_addDoubt [.ref a, .int (nI i)] (sh, I, J, R) (sh, I', J, R) none ∧ DbC I' a (fun d s => db d s + (if ld i = d ∧ ¬ wh i = s then dc i else 0)) ∧ Sm (fun b _ => b = a + 7) I I' := by
  obtain ⟨⟨b1, b2, b3⟩, ⟨w1, w2, w3⟩, w4, w5⟩ := id hW
  obtain ⟨q1, q2, q3, q4⟩ := w5 i hi
  have hv : vp_in (nI i) 40 := vp_in_nI (by omega) (by decide)
  have hcl : (nI i).toNatClampNeg = i := nI_clamp (by omega)
  have lp : ∀ j k (I1 : Nat → Nat → Int32), k + j = 3 → (∀ d s, d < 36 → s < 3 → I1 (a + 7) (3 * d + s) = nI (db d s + (if ld i = d ∧ ¬ wh i = s ∧ s < k then dc i else 0))) → Sm (fun b _ => b = a + 7) I I1 → s_X7_addDoubt_2 γ l a (nI i) (nI k) (sh, I1, J, R) (fun hf v => ∃ I', hf = (sh, I', J, R) ∧ v = none ∧ (DbC I' a (fun d s => db d s + (if ld i = d ∧ ¬ wh i = s then dc i else 0)) ∧ Sm (fun b _ => b = a + 7) I I')) := by
    intro j
    induction j with
    | zero =>
      intro k I1 hk hd hS
      have e : k = 3 := by omega
      subst e
      refine w_X7_addDoubt_2 hA ⟨fun _ => ⟨I1, rfl, rfl, fun d s h1 h2 => ?_, hS⟩, fun z => absurd (by decide) z⟩
      rw [hd d s h1 h2]
      congr 2
      by_cases q : ld i = d ∧ ¬ wh i = s
      · rw [if_pos ⟨q.1, q.2, h2⟩, if_pos q]
      · rw [if_neg (fun t => q ⟨t.1, t.2.1⟩), if_neg q]
    | succ j ih =>
      intro k I1 hk hd hS
      have o2 : I1 (a + 2) i = nI (ld i) := (hS _ _ (by simp)).trans q1
      have o3 : I1 (a + 3) i = nI (wh i) := (hS _ _ (by simp)).trans q2
      have o6 : I1 (a + 6) i = nI (dc i) := (hS _ _ (by simp)).trans h6
      have v7 : vp_in (nI (3 * ld i + k)) 108 := vp_in_nI (by omega) (by decide)
      refine w_X7_addDoubt_2 hA ⟨fun z => absurd z (nI_nlt (show k ≤ 2 by omega) (by decide)), fun _ => ⟨hv, ?_⟩⟩
      rw [hcl, o3, o2, o6, e3, nI_clamp (show 3 * ld i + k < 2 ^ 31 by omega), nI_eq (by omega) (by omega), nI_1]
      refine ⟨fun z => ih (k + 1) I1 (by omega) (fun d s h1 h2 => ?_) hS, fun z => ⟨hv, v7, hv, v7, ih (k + 1) _ (by omega) (fun d s h1 h2 => ?_) (hS.up rfl)⟩⟩
      · rw [hd d s h1 h2]
        congr 2
        by_cases q : ld i = d ∧ ¬ wh i = s ∧ s < k
        · rw [if_pos q, if_pos ⟨q.1, q.2.1, by omega⟩]
        · rw [if_neg q, if_neg (fun t => q ⟨t.1, t.2.1, by have := t.2.1; omega⟩)]
      · by_cases e : d = ld i ∧ s = k
        · obtain ⟨e1, e2⟩ := e
          subst e1; subst e2
          rw [up_at, if_pos ⟨rfl, rfl⟩, hd _ _ h1 h2, nI_add]
          congr 1
          rw [if_neg (fun t => by omega), if_pos ⟨rfl, fun t => z t.symm, by omega⟩]
          omega
        · rw [up_at, if_neg (by omega), hd d s h1 h2]
          congr 2
          by_cases q : ld i = d ∧ ¬ wh i = s ∧ s < k
          · rw [if_pos q, if_pos ⟨q.1, q.2.1, by omega⟩]
          · rw [if_neg q, if_neg (fun t => q ⟨t.1, t.2.1, by have := t.1; omega⟩)]
  have l0 := lp 3 0 I (by omega) (fun d s h1 h2 => by rw [hD d s h1 h2, if_neg (fun t => by omega)]; rfl) Sm.rf
  rw [nI_0] at l0
  obtain ⟨I', h1, h2⟩ := rW_ex (w_X7_addDoubt_0 hA l0)
  exact ⟨I', e_X7_addDoubt h1, h2⟩
def Pkn (a p b j : Nat) : Prop := Pco a p b j ∨ b = a + 7
theorem ct_know {n : Nat} (hA : At7 sh R a) (hA3 : At3 sh R p) (hpa : p + 8 ≤ a ∨ a + 11 ≤ p) (hV : V_prc Rs) (hC : PrC I p Rs) (hW : WyC I a H D K ho ld wh) (hc : I a 3 = 0 ∨ (I a 3 = 1 ∧ CoC I a D K (ocN Rs ho) (scN Rs ho) (dcN Rs ho ld wh))) (hn : n ≤ K) :
    ∃ I', rMet γ l m_X7_know [.ref a, .int (nI n), .ref p] (sh, I, J, R) (sh, I', J, R) none ∧ Sm (Pkn a p) I I' ∧ I' a 3 = 1 ∧ CoC I' a D K (ocN Rs ho) (scN Rs ho) (dcN Rs ho ld wh) ∧ DbC I' a (dbN (dcN Rs ho ld wh) ld wh n) := by
  have h40 := hW.1.2.2
  obtain ⟨I1, c1, c2, c3, c4⟩ := ct_setCosts (γ := γ) (l := l) (J := J) hA hA3 hpa hV hC hW hc
  have f1 := ct_fill (γ := γ) (l := l) (I := I1) (J := J) (R := R) (a := a + 7) (v := 0) (At7_10 hA).2.1 (At7_10 hA).2.2 (by decide)
  have fo : ∀ b j, b ≠ a + 7 → fillN I1 (a + 7) 0 108 b j = I1 b j := fun b j h => by simp [fillN, h]
  have fz : ∀ j, j < 108 → fillN I1 (a + 7) 0 108 (a + 7) j = 0 := fun j h => by simp [fillN, h]
  have lp : ∀ j k (I2 : Nat → Nat → Int32), k + j = n → DbC I2 a (dbN (dcN Rs ho ld wh) ld wh k) → Sm (fun b _ => b = a + 7) I1 I2 → s_X7_know_15 γ l a (nI n) (nI k) (sh, I2, J, R) (fun hf v => ∃ I', hf = (sh, I', J, R) ∧ v = none ∧ (DbC I' a (dbN (dcN Rs ho ld wh) ld wh n) ∧ Sm (fun b _ => b = a + 7) I1 I')) := by
    intro j
    induction j with
    | zero =>
      intro k I2 hk hD hS
      have e : k = n := by omega
      subst e
      exact w_X7_know_15 hA ⟨fun _ => ⟨I2, rfl, rfl, hD, hS⟩, fun z => absurd (nI_le (Nat.le_refl _) (by omega)) z⟩
    | succ j ih =>
      intro k I2 hk hD hS
      have hW2 : WyC I2 a H D K ho ld wh := hW.loc (fun b j q => (hS b j (by simp; omega)).trans (c2 b j (by unfold Pco; omega)))
      obtain ⟨I3, d1, d2, d3⟩ := ct_addDoubt (γ := γ) (l := l) (J := J) (i := k) (dc := dcN Rs ho ld wh) hA hW2 (by omega) ((hS _ _ (by simp)).trans (c4.2 k (by omega))) hD
      refine w_X7_know_15 hA ⟨fun z => absurd z (nI_ge (by omega) (by omega)), fun _ => ⟨I3, d1, ?_⟩⟩
      rw [nI_1]
      exact ih (k + 1) I3 (by omega) d2 (hS.tr d3)
  have l0 := lp n 0 (fillN I1 (a + 7) 0 108) (by omega) (fun d s h1 h2 => by rw [fz _ (by omega)]; exact nI_0.symm) (fun b j q => fo b j q)
  rw [nI_0] at l0
  obtain ⟨I', h1, h2, h3⟩ := rW_ex (w_X7_know_0 hA hA3 ⟨I1, c1, _, f1, l0⟩)
  refine ⟨I', e_X7_know h1, fun b j q => ?_, ?_, c4.loc (fun b j q => h3 b j (by simp; omega)), h2⟩
  · unfold Pkn at q
    rw [h3 b j (fun z => q (Or.inr z)), c2 b j (fun z => q (Or.inl z))]
  · rw [h3 _ _ (by simp)]; exact c3
theorem Bw_of {n : Nat} (hW : WyC I a H D K ho ld wh) (hn : n ≤ K) : Bw D (ocN Rs ho) (scN Rs ho) (dbN (dcN Rs ho ld wh) ld wh n) := by
  refine ⟨hW.1.2.1, fun d _ => ⟨fw10.2, fw10.2, fun s _ => ?_⟩⟩
  have := dbN_le (dc := dcN Rs ho ld wh) (ld := ld) (wh := wh) n (fun i _ => fw10.2) d s
  have := hW.1.2.2
  omega
theorem CstW_of {n : Nat} {db : Nat → Nat → Nat} {oc sc dc : Nat → Nat} (hW : WyC I a H D K ho ld wh) (h1 : CoC I a D K oc sc dc) (h2 : DbC I a db) : CstW I a D oc sc db := by
  have h36 := hW.1.2.1
  exact ⟨hW.2.1.2.1, fun d hd => ⟨(h1.1 d hd).1, (h1.1 d hd).2, fun s hs => h2 d s (by omega) hs⟩⟩
theorem lg_0 {x y : Int64} : lg_cmp x y = 0 ↔ x = y := by
  unfold lg_cmp
  constructor
  · intro h
    by_cases q : x = y
    · exact q
    · rw [if_neg q] at h
      split at h
      · exact absurd h (by decide)
      · exact absurd h (by decide)
  · intro h
    subst h
    rw [if_neg (fun z => Int64.lt_irrefl z), if_pos rfl]
def glJ (al so : Int64) : Int32 := if so = 0 then 1 else if so = al then 0 else 2
theorem ct_guiltOf {h : Nat} {oc sc : Nat → Nat} {db : Nat → Nat → Nat} (hA : At7 sh R a) (hb : Bw D oc sc db) (hC : CstW I a D oc sc db) (hW : WyC I a H D K ho ld wh) (hh : h < H) :
    ∃ I' J', rMet γ l m_X7_guiltOf [.ref a, .int (nI h)] (sh, I, J, R) (sh, I', J', R) (some (.int (glJ (MW D oc sc db (fun _ => false) D 0) (if LW D oc sc db (fun d => ho d == h) D 0 = LW D oc sc db (fun _ => false) D 0 then MW D oc sc db (fun d => ho d == h) D 0 else 0)))) ∧ Sm (fun b _ => b = a + 8) I I' ∧ SmJ (a + 9) J J' := by
  have h6 := hW.1.1
  have h36 := hW.1.2.1
  obtain ⟨I1, J1, c1, c2, c3, c4⟩ := ct_weigh7 (γ := γ) (l := l) (I := I) (J := J) (idl := fun _ => false) (x := -1) hA hb hC (fun d hd => by rw [(hW.2.2.1 d hd).1]; have := (hW.2.2.1 d hd).2; exact ⟨fun z => absurd z (nI_ne1 (by omega)), fun z => absurd z (by decide)⟩)
  have hC1 : CstW I1 a D oc sc db := hC.loc (fun b j q => c3 b j (by simp; omega))
  have hW1 : WyC I1 a H D K ho ld wh := hW.loc (fun b j q => c3 b j (by simp; omega))
  obtain ⟨I2, J2, d1, d2, d3, d4⟩ := ct_weigh7 (γ := γ) (l := l) (I := I1) (J := J1) (idl := fun d => ho d == h) (x := nI h) hA hb hC1 (fun d hd => by have := (hW.2.2.1 d hd).2; rw [(hW1.2.2.1 d hd).1, nI_eq (by omega) (by omega), beq_iff_eq])
  have e1 := c2 0 0 (Nat.zero_le _) (by omega)
  have e2 := d2 0 0 (Nat.zero_le _) (by omega)
  unfold LwC at e1 e2
  simp only [Nat.mul_zero, Nat.add_zero, Nat.sub_zero] at e1 e2
  have lb1 := LW_le (idl := fun _ => false) hb D (Nat.le_refl _) 0 (by omega)
  have lb2 := LW_le (idl := fun d => ho d == h) hb D (Nat.le_refl _) 0 (by omega)
  have b36 : ∀ so : Int64, s_X7_guiltOf_36 γ l (MW D oc sc db (fun _ => false) D 0) so (sh, I2, J2, R) (fun hf v => ∃ I' J', hf = (sh, I', J', R) ∧ v = some (.int (glJ (MW D oc sc db (fun _ => false) D 0) so)) ∧ (Sm (fun b _ => b = a + 8) I I' ∧ SmJ (a + 9) J J')) := by
    intro so
    refine w_X7_guiltOf_36 ?_
    rw [lg_0, lg_0]
    refine ⟨fun z => ⟨I2, J2, rfl, ?_, c3.tr d3, c4.tr d4⟩, fun z => ⟨fun y => ⟨I2, J2, rfl, ?_, c3.tr d3, c4.tr d4⟩, fun y => ⟨I2, J2, rfl, ?_, c3.tr d3, c4.tr d4⟩⟩⟩
    · unfold glJ; rw [if_pos z]
    · unfold glJ; rw [if_neg z, if_pos y]
    · unfold glJ; rw [if_neg z, if_neg y]
  have key : s_X7_guiltOf_0 γ l a (nI h) (sh, I, J, R) (fun hf v => ∃ I' J', hf = (sh, I', J', R) ∧ v = some (.int (glJ (MW D oc sc db (fun _ => false) D 0) (if LW D oc sc db (fun d => ho d == h) D 0 = LW D oc sc db (fun _ => false) D 0 then MW D oc sc db (fun d => ho d == h) D 0 else 0))) ∧ (Sm (fun b _ => b = a + 8) I I' ∧ SmJ (a + 9) J J')) := by
    refine w_X7_guiltOf_0 hA ⟨I1, J1, c1, _, ct_leastCost hA, _, ct_howMany hA, I2, J2, d1, _, ct_leastCost hA, ?_⟩
    rw [e1.1, e1.2, e2.1, nI_eq (by omega) (by omega)]
    refine ⟨fun z => ⟨MW D oc sc db (fun d => ho d == h) D 0, ?_, ?_⟩, fun z => ?_⟩
    · have := ct_howMany (γ := γ) (l := l) (I := I2) (J := J2) hA
      rw [e2.2] at this
      exact this
    · rw [if_pos z]; exact b36 _
    · rw [if_neg z]; exact b36 _
  obtain ⟨I', J', h1, h2⟩ := rW_exJ key
  exact ⟨I', J', e_X7_guiltOf h1, h2⟩
/-- from look k on (those ahead of it known): the first that turns the tale -/
def turnW (D K : Nat) (oc sc : Nat → Nat) (db : Nat → Nat → Nat → Nat) : Nat → Nat → Int32
  | 0, _ => -1
  | j + 1, k => if (∀ d, d < D → stW D oc sc (db k) (d + 1) = stW D oc sc (db (k + 1)) (d + 1)) then turnW D K oc sc db j (k + 1) else nI k
theorem ct_firstTurn {n : Nat} (hA : At7 sh R a) (hW : WyC I a H D K ho ld wh) (hc : CoC I a D K (ocN Rs ho) (scN Rs ho) (dcN Rs ho ld wh)) (hD : DbC I a (dbN (dcN Rs ho ld wh) ld wh n)) (hn : n < K) :
    ∃ I' J', rMet γ l m_X7_firstTurn [.ref a, .int (nI n)] (sh, I, J, R) (sh, I', J', R) (some (.int (turnW D K (ocN Rs ho) (scN Rs ho) (dbN (dcN Rs ho ld wh) ld wh) (K - n) n))) ∧ Sm (fun b _ => b = a + 7 ∨ b = a + 8 ∨ b = a + 10) I I' ∧ SmJ (a + 9) J J' := by
  have h40 := hW.1.2.2
  have h36 := hW.1.2.1
  have h6 := hW.1.1
  have hno : ∀ (I1 : Nat → Nat → Int32), WyC I1 a H D K ho ld wh → ∀ d, d < D → (I1 (a + 1) d = (-1 : Int32) ↔ (fun _ : Nat => false) d = true) := fun I1 hW1 d hd => by rw [(hW1.2.2.1 d hd).1]; have := (hW1.2.2.1 d hd).2; exact ⟨fun z => absurd z (nI_ne1 (by omega)), fun z => absurd z Bool.false_ne_true⟩
  -- weigh and tell, with n known
  have wt : ∀ (n : Nat) (I1 : Nat → Nat → Int32) (J1 : Nat → Nat → Int64), n ≤ K → WyC I1 a H D K ho ld wh → CoC I1 a D K (ocN Rs ho) (scN Rs ho) (dcN Rs ho ld wh) → DbC I1 a (dbN (dcN Rs ho ld wh) ld wh n) →
      ∃ I2 J2 I3, rMet γ l m_X7_weigh [.ref a, .int (-1)] (sh, I1, J1, R) (sh, I2, J2, R) none ∧ rMet γ l m_X7_tell [.ref a] (sh, I2, J2, R) (sh, I3, J2, R) (some (.int (bz (∃ d, d < D ∧ ¬ I1 (a + 10) d = nI (stW D (ocN Rs ho) (scN Rs ho) (dbN (dcN Rs ho ld wh) ld wh n) (d + 1)))))) ∧ (∀ d, d < D → I3 (a + 10) d = nI (stW D (ocN Rs ho) (scN Rs ho) (dbN (dcN Rs ho ld wh) ld wh n) (d + 1))) ∧ Sm (fun b _ => b = a + 8 ∨ b = a + 10) I1 I3 ∧ SmJ (a + 9) J1 J2 := by
    intro n I1 J1 hn hW1 hc1 hD1
    have hb := Bw_of (Rs := Rs) hW1 hn
    have hC1 := CstW_of (n := n) hW1 hc1 hD1
    obtain ⟨I2, J2, c1, c2, c3, c4⟩ := ct_weigh7 (γ := γ) (l := l) (I := I1) (J := J1) (idl := fun _ => false) (x := -1) hA hb hC1 (hno I1 hW1)
    obtain ⟨I3, d1, d2, d3⟩ := ct_tell (γ := γ) (l := l) (I := I2) (J := J2) hA hb (hC1.loc (fun b j q => c3 b j (by simp; omega))) (fun d s q1 q2 => (c2 d s q1 q2).1)
    refine ⟨I2, J2, I3, c1, ?_, d2, (c3.mono (fun b j q => Or.inl q)).tr (d3.mono (fun b j q => Or.inr q)), c4⟩
    have e : (∃ d, d < D ∧ ¬ I2 (a + 10) d = nI (stW D (ocN Rs ho) (scN Rs ho) (dbN (dcN Rs ho ld wh) ld wh n) (d + 1))) ↔ (∃ d, d < D ∧ ¬ I1 (a + 10) d = nI (stW D (ocN Rs ho) (scN Rs ho) (dbN (dcN Rs ho ld wh) ld wh n) (d + 1))) := by
      constructor
      · rintro ⟨d, q1, q2⟩; exact ⟨d, q1, by rw [c3 _ _ (by simp)] at q2; exact q2⟩
      · rintro ⟨d, q1, q2⟩; exact ⟨d, q1, by rw [c3 _ _ (by simp)]; exact q2⟩
    rw [bz_c e] at d1
    exact d1
  have lp : ∀ j k (I1 : Nat → Nat → Int32) (J1 : Nat → Nat → Int64), k + j = K → WyC I1 a H D K ho ld wh → CoC I1 a D K (ocN Rs ho) (scN Rs ho) (dcN Rs ho ld wh) → DbC I1 a (dbN (dcN Rs ho ld wh) ld wh k) → (∀ d, d < D → I1 (a + 10) d = nI (stW D (ocN Rs ho) (scN Rs ho) (dbN (dcN Rs ho ld wh) ld wh k) (d + 1))) → Sm (fun b _ => b = a + 7 ∨ b = a + 8 ∨ b = a + 10) I I1 → SmJ (a + 9) J J1 → s_X7_firstTurn_12 γ l a (nI k) (sh, I1, J1, R) (fun hf v => ∃ I' J', hf = (sh, I', J', R) ∧ v = some (.int (turnW D K (ocN Rs ho) (scN Rs ho) (dbN (dcN Rs ho ld wh) ld wh) j k)) ∧ (Sm (fun b _ => b = a + 7 ∨ b = a + 8 ∨ b = a + 10) I I' ∧ SmJ (a + 9) J J')) := by
    intro j
    induction j with
    | zero =>
      intro k I1 J1 hk hW1 hc1 hD1 ht hS hJ
      refine w_X7_firstTurn_12 hA ⟨fun _ => ⟨I1, J1, rfl, rfl, hS, hJ⟩, fun z => absurd ?_ z⟩
      rw [hW1.2.1.2.2]; exact nI_le (by omega) (by omega)
    | succ j ih =>
      intro k I1 J1 hk hW1 hc1 hD1 ht hS hJ
      obtain ⟨I2, c1, c2, c3⟩ := ct_addDoubt (γ := γ) (l := l) (J := J1) (i := k) (dc := dcN Rs ho ld wh) hA hW1 (by omega) (hc1.2 k (by omega)) hD1
      have hW2 : WyC I2 a H D K ho ld wh := hW1.loc (fun b j q => c3 b j (by simp; omega))
      have hc2 : CoC I2 a D K (ocN Rs ho) (scN Rs ho) (dcN Rs ho ld wh) := hc1.loc (fun b j q => c3 b j (by simp; omega))
      obtain ⟨I3, J3, I4, d1, d2, d3, d4, d5⟩ := wt (k + 1) I2 J1 (by omega) hW2 hc2 c2
      have hS4 : Sm (fun b _ => b = a + 7 ∨ b = a + 8 ∨ b = a + 10) I I4 := (hS.tr (c3.mono (fun b j q => Or.inl q))).tr (d4.mono (fun b j q => Or.inr q))
      have ee : (∃ d, d < D ∧ ¬ I2 (a + 10) d = nI (stW D (ocN Rs ho) (scN Rs ho) (dbN (dcN Rs ho ld wh) ld wh (k + 1)) (d + 1))) ↔ ¬ (∀ d, d < D → stW D (ocN Rs ho) (scN Rs ho) (dbN (dcN Rs ho ld wh) ld wh k) (d + 1) = stW D (ocN Rs ho) (scN Rs ho) (dbN (dcN Rs ho ld wh) ld wh (k + 1)) (d + 1)) := by
        constructor
        · rintro ⟨d, q1, q2⟩ t
          apply q2
          rw [c3 _ _ (by simp), ht d q1, t d q1]
        · intro t
          refine Classical.byContradiction (fun w => t (fun d hd => ?_))
          refine Classical.byContradiction (fun u => w ⟨d, hd, fun v => u ?_⟩)
          rw [c3 _ _ (by simp), ht d hd, nI_eq (by have := st_lt (D := D) (oc := ocN Rs ho) (sc := scN Rs ho) (db := dbN (dcN Rs ho ld wh) ld wh k) (d + 1); omega) (by have := st_lt (D := D) (oc := ocN Rs ho) (sc := scN Rs ho) (db := dbN (dcN Rs ho ld wh) ld wh (k + 1)) (d + 1); omega)] at v
          exact v
      refine w_X7_firstTurn_12 hA ⟨fun z => absurd z ?_, fun _ => ⟨I2, c1, I3, J3, d1, I4, _, d2, fun z => ?_, fun z => ⟨I4, J3, rfl, ?_, hS4, hJ.tr d5⟩⟩⟩
      · rw [hW1.2.1.2.2]; exact nI_ge (by omega) (by omega)
      · rw [bz_0, ee, Classical.not_not] at z
        have := ih (k + 1) I4 J3 (by omega) (hW2.loc (fun b j q => d4 b j (by simp; omega))) (hc2.loc (fun b j q => d4 b j (by simp; omega))) (fun d s q1 q2 => by rw [d4 _ _ (by simp)]; exact c2 d s q1 q2) d3 hS4 (hJ.tr d5)
        simp only [turnW, if_pos z]
        rw [nI_1]
        exact this
      · rw [bz_0, Classical.not_not, ee] at z
        simp only [turnW, if_neg z]
  obtain ⟨I2, J2, I3, c1, c2, c3, c4, c5⟩ := wt n I J (by omega) hW hc hD
  have l0 := lp (K - n) n I3 J2 (by omega) (hW.loc (fun b j q => c4 b j (by simp; omega))) (hc.loc (fun b j q => c4 b j (by simp; omega))) (fun d s q1 q2 => by rw [c4 _ _ (by simp)]; exact hD d s q1 q2) c3 (c4.mono (fun b j q => Or.inr q)) c5
  obtain ⟨I', J', h1, h2⟩ := rW_exJ (w_X7_firstTurn_0 hA ⟨I2, J2, c1, I3, _, c2, l0⟩)
  exact ⟨I', J', e_X7_firstTurn h1, h2⟩
end KNW
