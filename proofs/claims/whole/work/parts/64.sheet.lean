/-! ===== the sheet: a value, how the class holds it, how the model does ===== -/
theorem rW_ex {γ : rG} {l : Launch} {M : rM} {k n pc : Nat} {L : List (Option Value)} {st : List Value} {h : rHeap} {sh : Nat × (Nat → Nat) × (Nat → Nat)} {J : Nat → Nat → Int64} {R : Nat → Nat → Option Nat} {r : Option Value} {F : (Nat → Nat → Int32) → Prop} (t : rW γ l M k n pc L st h (fun hf v => ∃ I', hf = (sh, I', J, R) ∧ v = r ∧ F I')) : ∃ I', rV γ l M k n pc L st h (sh, I', J, R) r ∧ F I' := by
  obtain ⟨hf, v, h1, I', rfl, rfl, h2⟩ := t
  exact ⟨I', h1, h2⟩
/-- parts, acts, packets, creases, dirt, slits, wax, acts' kind, layers, column, below, bound -/
abbrev Sht : Type := Nat × Nat × (Nat → Pk) × Nat × Nat × (Nat → Nat) × (Nat → Int32) × (Nat → Nat × Nat × Nat × Nat × Nat)
abbrev yN (T : Sht) : Nat := T.1
abbrev yA (T : Sht) : Nat := T.2.1
abbrev yP (T : Sht) : Nat → Pk := T.2.2.1
abbrev yC (T : Sht) : Nat := T.2.2.2.1
abbrev yD (T : Sht) : Nat := T.2.2.2.2.1
abbrev yS (T : Sht) : Nat → Nat := T.2.2.2.2.2.1
abbrev yW (T : Sht) : Nat → Int32 := T.2.2.2.2.2.2.1
abbrev yK (T : Sht) : Nat → Nat × Nat × Nat × Nat × Nat := T.2.2.2.2.2.2.2
def V_sheet (n : Nat) (T : Sht) : Prop := 2 ≤ yN T ∧ yN T ≤ 8 ∧ yA T ≤ 16 ∧ yC T < 2 ^ (2 * (yN T - 1)) ∧ yD T < 2 ^ (2 * yN T) ∧ (∀ i, i ≤ yA T → PkV (yP T i) ∧ pN (yP T i) = yN T) ∧ (∀ p, p < 8 → yS T p ≤ n) ∧ ∀ i, i < yA T → (yK T i).1 < 6 ∧ (yK T i).2.1 ≤ 8 ∧ (yK T i).2.2.1 ≤ 8 ∧ (yK T i).2.2.2.1 ≤ 8 ∧ (yK T i).2.2.2.2 < 2 ^ 8
def C_acts (I : Nat → Nat → Int32) (c k : Nat) (T : Sht) : Prop := ∀ i, i < yA T → I (c + k) i = nI (yK T i).1 ∧ I (c + (k + 1)) i = nI (yK T i).2.1 ∧ I (c + (k + 2)) i = nI (yK T i).2.2.1 ∧ I (c + (k + 3)) i = nI (yK T i).2.2.2.1 ∧ I (c + (k + 4)) i = nI (yK T i).2.2.2.2
def C_sheet (I : Nat → Nat → Int32) (a : Nat) (T : Sht) : Prop :=
  (I a 0 = nI (yN T) ∧ I a 1 = nI (yA T) ∧ I a 2 = nI (yC T) ∧ I a 3 = nI (yD T)) ∧ (∀ p, p < 8 → I (a + 1) p = nI (yS T p) ∧ I (a + 2) p = yW T p) ∧ (∀ i, i ≤ yA T → PkC I (a + 9 + 6 * i) (yP T i)) ∧ C_acts I a 4 T
def M_sheet (I : Nat → Nat → Int32) (m : Nat) (T : Sht) : Prop :=
  (I m 39 = nI (yN T) ∧ I m 48 = nI (yA T)) ∧ (∀ i, i < 8 → I (m + 29) i = nI (yC T / 2 ^ (2 * i) % 4) ∧ I (m + 30) i = nI (yS T i) ∧ I (m + 31) i = yW T i) ∧ (∀ f, f < 16 → I (m + 32) f = nz ((yD T).testBit f)) ∧ (∀ i, i ≤ yA T → PkM I m i (yP T i)) ∧ C_acts I m 33 T
/-- what the class's sheet takes -/
def Fc (a b j : Nat) : Prop := a ≤ b ∧ b < a + 111 ∧ (b = a → j < 4)
/-- what the model's sheet takes -/
def Fm (m b j : Nat) : Prop := (b = m ∧ (j = 39 ∨ j = 48)) ∨ (b = m + 25 ∧ j < 17) ∨ ((b = m + 26 ∨ b = m + 27 ∨ b = m + 28) ∧ j < 136) ∨ (m + 29 ≤ b ∧ b < m + 38)
theorem C_sheet.loc {I I' : Nat → Nat → Int32} {a : Nat} {T : Sht} (h : C_sheet I a T) (hA : yA T ≤ 16) (hq : ∀ b j, Fc a b j → (b < a + 9 + 6 * (yA T + 1) ∨ a + 9 + 6 * (yA T + 2) ≤ b) → I' b j = I b j) : C_sheet I' a T := by
  obtain ⟨⟨h1, h2, h3, h4⟩, h5, h6, h7⟩ := h
  refine ⟨⟨?_, ?_, ?_, ?_⟩, fun p hp => ⟨?_, ?_⟩, fun i hi => ?_, fun i hi => ?_⟩
  · rw [hq _ _ (by unfold Fc; omega) (by omega)]; exact h1
  · rw [hq _ _ (by unfold Fc; omega) (by omega)]; exact h2
  · rw [hq _ _ (by unfold Fc; omega) (by omega)]; exact h3
  · rw [hq _ _ (by unfold Fc; omega) (by omega)]; exact h4
  · rw [hq _ _ (by unfold Fc; omega) (by omega)]; exact (h5 p hp).1
  · rw [hq _ _ (by unfold Fc; omega) (by omega)]; exact (h5 p hp).2
  · exact (h6 i hi).loc (fun b q1 q2 => funext (fun j => hq b j (by unfold Fc; omega) (by omega)))
  · obtain ⟨r1, r2, r3, r4, r5⟩ := h7 i hi
    refine ⟨?_, ?_, ?_, ?_, ?_⟩
    · rw [hq _ _ (by unfold Fc; omega) (by omega)]; exact r1
    · rw [hq _ _ (by unfold Fc; omega) (by omega)]; exact r2
    · rw [hq _ _ (by unfold Fc; omega) (by omega)]; exact r3
    · rw [hq _ _ (by unfold Fc; omega) (by omega)]; exact r4
    · rw [hq _ _ (by unfold Fc; omega) (by omega)]; exact r5
theorem M_sheet.loc {n : Nat} {I I' : Nat → Nat → Int32} {m : Nat} {T : Sht} (h : M_sheet I m T) (hV : V_sheet n T) (hq : ∀ b j, Fm m b j → ¬ Ft m (yA T + 1) b j → I' b j = I b j) : M_sheet I' m T := by
  obtain ⟨⟨h1, h2⟩, h5, h3, h6, h7⟩ := h
  have hA := hV.2.2.1
  have h8 := hV.2.1
  refine ⟨⟨?_, ?_⟩, fun p hp => ⟨?_, ?_, ?_⟩, fun f hf => ?_, fun i hi => ?_, fun i hi => ?_⟩
  · rw [hq _ _ (by unfold Fm; omega) (by unfold Ft; omega)]; exact h1
  · rw [hq _ _ (by unfold Fm; omega) (by unfold Ft; omega)]; exact h2
  · rw [hq _ _ (by unfold Fm; omega) (by unfold Ft; omega)]; exact (h5 p hp).1
  · rw [hq _ _ (by unfold Fm; omega) (by unfold Ft; omega)]; exact (h5 p hp).2.1
  · rw [hq _ _ (by unfold Fm; omega) (by unfold Ft; omega)]; exact (h5 p hp).2.2
  · rw [hq _ _ (by unfold Fm; omega) (by unfold Ft; omega)]; exact h3 f hf
  · have hn := (hV.2.2.2.2.2.1 i hi).2
    exact (h6 i hi).loc (by omega) (hq _ _ (by unfold Fm; omega) (by unfold Ft; omega)) (hq _ _ (by unfold Fm; omega) (by unfold Ft; omega)) (fun b j q1 q2 q3 => hq b j (by unfold Fm; omega) (by unfold Ft; omega))
  · obtain ⟨r1, r2, r3, r4, r5⟩ := h7 i hi
    refine ⟨?_, ?_, ?_, ?_, ?_⟩
    · rw [hq _ _ (by unfold Fm; omega) (by unfold Ft; omega)]; exact r1
    · rw [hq _ _ (by unfold Fm; omega) (by unfold Ft; omega)]; exact r2
    · rw [hq _ _ (by unfold Fm; omega) (by unfold Ft; omega)]; exact r3
    · rw [hq _ _ (by unfold Fm; omega) (by unfold Ft; omega)]; exact r4
    · rw [hq _ _ (by unfold Fm; omega) (by unfold Ft; omega)]; exact r5
/-- one act more -/
def addAct (T : Sht) (Q : Pk) (k : Nat × Nat × Nat × Nat × Nat) : Sht := (yN T, yA T + 1, (fun i => if i = yA T + 1 then Q else yP T i), yC T, yD T, yS T, yW T, fun i => if i = yA T then k else yK T i)
/-- rows c + k .. of an act, and how many there are -/
def kpI (I : Nat → Nat → Int32) (c k fd A : Nat) (x1 x2 x3 x4 x5 : Int32) : Nat → Nat → Int32 := up (up (up (up (up (up I (c + k) A x1) (c + (k + 1)) A x2) (c + (k + 2)) A x3) (c + (k + 3)) A x4) (c + (k + 4)) A x5) c fd (nI (A + 1))
theorem kpI_off {I : Nat → Nat → Int32} {c k fd A b j : Nat} {x1 x2 x3 x4 x5 : Int32} (h1 : ¬ (b = c ∧ j = fd)) (h2 : ¬ (c + k ≤ b ∧ b < c + k + 5 ∧ j = A)) : kpI I c k fd A x1 x2 x3 x4 x5 b j = I b j := by
  unfold kpI
  rw [up_at, if_neg h1, up_at, if_neg (by omega), up_at, if_neg (by omega), up_at, if_neg (by omega), up_at, if_neg (by omega), up_at, if_neg (by omega)]
theorem kpI_acts {I : Nat → Nat → Int32} {c k fd : Nat} {T : Sht} {Q : Pk} {k1 k2 k3 k4 k5 : Nat} (hk : 1 ≤ k) (h : C_acts I c k T) : C_acts (kpI I c k fd (yA T) (nI k1) (nI k2) (nI k3) (nI k4) (nI k5)) c k (addAct T Q (k1, k2, k3, k4, k5)) := by
  intro i hi
  have hi' : i < yA T + 1 := hi
  show _ = nI (if i = yA T then (k1, k2, k3, k4, k5) else yK T i).1 ∧ _ = nI (if i = yA T then (k1, k2, k3, k4, k5) else yK T i).2.1 ∧ _ = nI (if i = yA T then (k1, k2, k3, k4, k5) else yK T i).2.2.1 ∧ _ = nI (if i = yA T then (k1, k2, k3, k4, k5) else yK T i).2.2.2.1 ∧ _ = nI (if i = yA T then (k1, k2, k3, k4, k5) else yK T i).2.2.2.2
  have hc : ∀ d, 1 ≤ d → c + d ≠ c := fun d hd => by omega
  by_cases e : i = yA T
  · rw [if_pos e, e]
    unfold kpI
    refine ⟨?_, ?_, ?_, ?_, ?_⟩
    · rw [up_at, if_neg (by omega), up_at, if_neg (by omega), up_at, if_neg (by omega), up_at, if_neg (by omega), up_at, if_neg (by omega), up_at, if_pos ⟨rfl, rfl⟩]
    · rw [up_at, if_neg (by omega), up_at, if_neg (by omega), up_at, if_neg (by omega), up_at, if_neg (by omega), up_at, if_pos ⟨rfl, rfl⟩]
    · rw [up_at, if_neg (by omega), up_at, if_neg (by omega), up_at, if_neg (by omega), up_at, if_pos ⟨rfl, rfl⟩]
    · rw [up_at, if_neg (by omega), up_at, if_neg (by omega), up_at, if_pos ⟨rfl, rfl⟩]
    · rw [up_at, if_neg (by omega), up_at, if_pos ⟨rfl, rfl⟩]
  · rw [if_neg e]
    obtain ⟨r1, r2, r3, r4, r5⟩ := h i (by omega)
    exact ⟨(kpI_off (by omega) (by omega)).trans r1, (kpI_off (by omega) (by omega)).trans r2, (kpI_off (by omega) (by omega)).trans r3, (kpI_off (by omega) (by omega)).trans r4, (kpI_off (by omega) (by omega)).trans r5⟩
section SHT
variable {γ : rG} {l : Launch} {sh : Nat × (Nat → Nat) × (Nat → Nat)} {I : Nat → Nat → Int32} {J : Nat → Nat → Int64} {R : Nat → Nat → Option Nat} {a m n : Nat} {T : Sht} {Q : Pk}
theorem C_keep {k1 k2 k3 k4 k5 : Nat} (hC : C_sheet I a T) (hA : yA T < 16) (hQ : PkC I (a + 9 + 6 * (yA T + 1)) Q) : C_sheet (kpI I a 4 1 (yA T) (nI k1) (nI k2) (nI k3) (nI k4) (nI k5)) a (addAct T Q (k1, k2, k3, k4, k5)) := by
  obtain ⟨⟨h1, h2, h3, h4⟩, h5, h6, h7⟩ := hC
  refine ⟨⟨(kpI_off (by omega) (by omega)).trans h1, ?_, (kpI_off (by omega) (by omega)).trans h3, (kpI_off (by omega) (by omega)).trans h4⟩, fun p hp => ⟨(kpI_off (by omega) (by omega)).trans (h5 p hp).1, (kpI_off (by omega) (by omega)).trans (h5 p hp).2⟩, fun i hi => ?_, kpI_acts (by omega) h7⟩
  · unfold kpI; rw [up_at, if_pos ⟨rfl, rfl⟩]; rfl
  · have hi' : i ≤ yA T + 1 := hi
    show PkC _ _ (if i = yA T + 1 then Q else yP T i)
    by_cases e : i = yA T + 1
    · rw [if_pos e, e]
      exact hQ.loc (fun b q1 q2 => funext (fun j => kpI_off (by omega) (by omega)))
    · rw [if_neg e]
      exact (h6 i (by omega)).loc (fun b q1 q2 => funext (fun j => kpI_off (by omega) (by omega)))
theorem M_keep {k1 k2 k3 k4 k5 : Nat} (hC : M_sheet I m T) (hQ : PkM I m (yA T + 1) Q) (h8 : pN Q ≤ 8) (hP : ∀ i, i ≤ yA T → pN (yP T i) ≤ 8) : M_sheet (kpI I m 33 48 (yA T) (nI k1) (nI k2) (nI k3) (nI k4) (nI k5)) m (addAct T Q (k1, k2, k3, k4, k5)) := by
  obtain ⟨⟨h1, h2⟩, h5, h3, h6, h7⟩ := hC
  refine ⟨⟨(kpI_off (by omega) (by omega)).trans h1, ?_⟩, fun p hp => ⟨(kpI_off (by omega) (by omega)).trans (h5 p hp).1, (kpI_off (by omega) (by omega)).trans (h5 p hp).2.1, (kpI_off (by omega) (by omega)).trans (h5 p hp).2.2⟩, fun f hf => (kpI_off (by omega) (by omega)).trans (h3 f hf), fun i hi => ?_, kpI_acts (by omega) h7⟩
  · unfold kpI; rw [up_at, if_pos ⟨rfl, rfl⟩]; rfl
  · have hi' : i ≤ yA T + 1 := hi
    show PkM _ _ _ (if i = yA T + 1 then Q else yP T i)
    by_cases e : i = yA T + 1
    · rw [if_pos e, e]
      exact hQ.loc h8 (kpI_off (by omega) (by omega)) (kpI_off (by omega) (by omega)) (fun b j q1 q2 q3 => kpI_off (by omega) (by omega))
    · rw [if_neg e]
      exact (h6 i (by omega)).loc (hP i (by omega)) (kpI_off (by omega) (by omega)) (kpI_off (by omega) (by omega)) (fun b j q1 q2 q3 => kpI_off (by omega) (by omega))
theorem V_keep {k : Nat × Nat × Nat × Nat × Nat} (hV : V_sheet n T) (hA : yA T < 16) (hQ : PkV Q) (hN : pN Q = yN T) (hk : k.1 < 6 ∧ k.2.1 ≤ 8 ∧ k.2.2.1 ≤ 8 ∧ k.2.2.2.1 ≤ 8 ∧ k.2.2.2.2 < 2 ^ 8) : V_sheet n (addAct T Q k) := by
  obtain ⟨h1, h2, h3, h4, h5, h6, h7, h8⟩ := hV
  refine ⟨h1, h2, hA, h4, h5, fun i hi => ?_, h7, fun i hi => ?_⟩
  · have hi' : i ≤ yA T + 1 := hi
    show PkV (if i = yA T + 1 then Q else yP T i) ∧ pN (if i = yA T + 1 then Q else yP T i) = yN T
    by_cases e : i = yA T + 1
    · rw [if_pos e]; exact ⟨hQ, hN⟩
    · rw [if_neg e]; exact h6 i (by omega)
  · have hi' : i < yA T + 1 := hi
    show (if i = yA T then k else yK T i).1 < 6 ∧ (if i = yA T then k else yK T i).2.1 ≤ 8 ∧ (if i = yA T then k else yK T i).2.2.1 ≤ 8 ∧ (if i = yA T then k else yK T i).2.2.2.1 ≤ 8 ∧ (if i = yA T then k else yK T i).2.2.2.2 < 2 ^ 8
    by_cases e : i = yA T
    · rw [if_pos e]; exact hk
    · rw [if_neg e]; exact h8 i (by omega)
theorem ct_packet {A : Nat} (hA : At5 sh R a) (h16 : A ≤ 16) (h1 : I a 1 = nI A) : rMet γ l m_X5_packet [.ref a] (sh, I, J, R) (sh, I, J, R) (some (.ref (a + 9 + 6 * A))) := by
  refine e_X5_packet (rW_pure (w_X5_packet_0 hA ?_))
  rw [h1]
  have := At5_p hA A (by omega)
  exact ⟨vp_in_nI (by omega) (by decide), _, by rw [nI_clamp (by omega)]; exact this.1, this.2, rfl, rfl⟩
theorem ct_keep {A : Nat} {x1 x2 x3 x4 x5 : Int32} (hA : At5 sh R a) (h16 : A < 16) (h1 : I a 1 = nI A) : rMet γ l m_X5_keep [.ref a, .int x1, .int x2, .int x3, .int x4, .int x5] (sh, I, J, R) (sh, kpI I a 4 1 A x1 x2 x3 x4 x5, J, R) (some (.int (nI A))) := by
  have hin : vp_in (nI A) 16 := vp_in_nI h16 (by decide)
  have hcl : (nI A).toNatClampNeg = A := nI_clamp (by omega)
  have n4 : ∀ d, 1 ≤ d → ¬ (a = a + d) := fun d hd => by omega
  refine e_X5_keep (rW_pure (w_X5_keep_0 hA ?_))
  simp only [up_at, n4 4 (by omega), n4 5 (by omega), n4 6 (by omega), n4 7 (by omega), n4 8 (by omega), false_and, if_false, h1, hcl, nI_1, and_self, if_true]
  refine ⟨hin, hin, hin, hin, hin, rfl, ?_⟩
  rw [nI_pred]
theorem ct_acted {A : Nat} {x1 x2 x3 x4 x5 : Int32} (hA : At9 sh R m) (h16 : A < 16) (h1 : I m 48 = nI A) : rMet γ l m_X9_acted [.ref m, .int x1, .int x2, .int x3, .int x4, .int x5] (sh, I, J, R) (sh, kpI I m 33 48 A x1 x2 x3 x4 x5, J, R) (some (.int (nI A))) := by
  have hin : vp_in (nI A) 16 := vp_in_nI h16 (by decide)
  have hcl : (nI A).toNatClampNeg = A := nI_clamp (by omega)
  have n4 : ∀ d, 1 ≤ d → ¬ (m = m + d) := fun d hd => by omega
  refine e_X9_acted (rW_pure (w_X9_acted_0 hA ?_))
  simp only [up_at, n4 33 (by omega), n4 34 (by omega), n4 35 (by omega), n4 36 (by omega), n4 37 (by omega), false_and, if_false, h1, hcl, nI_1, and_self, if_true]
  refine ⟨hin, hin, hin, hin, hin, rfl, ?_⟩
  rw [nI_pred]
end SHT
