/-! ===== reading and peeping ===== -/
def rdP (P : Pk) (i : Nat) : Prop := if pU P i then pL P i + 1 = cnt (pC P) (pC P i) (pN P) else pL P i = 0
def fcI (P : Pk) (i : Nat) : Int32 := ptA P (nI (pC P i)) (if pU P i then nI (pL P i) + 1 else nI (pL P i) - 1)
theorem ptA_some {P : Pk} {x y : Int32} : ∀ j, j ≤ pN P → fndY (pC P) (pL P) x y (pN P) j = -1 ∨ ∃ p, p < pN P ∧ fndY (pC P) (pL P) x y (pN P) j = nI p ∧ nI (pC P p) = x ∧ nI (pL P p) = y := by
  intro j
  induction j with
  | zero => intro _; exact Or.inl rfl
  | succ j ih =>
    intro hj
    simp only [fndY]
    split
    · rename_i h
      exact Or.inr ⟨_, by omega, rfl, h.1, h.2⟩
    · exact ih (by omega)
/-- the part at which a text looks: in the same column, next to it -/
theorem fc_or {P : Pk} (hP : PkV P) {i : Nat} (hi : i < pN P) : fcI P i = -1 ∨ ∃ o, o < pN P ∧ fcI P i = nI o ∧ pC P o = pC P i ∧ (pL P o = pL P i + 1 ∨ pL P i = pL P o + 1) := by
  unfold fcI ptA
  rcases ptA_some (P := P) (x := nI (pC P i)) (y := if pU P i then nI (pL P i) + 1 else nI (pL P i) - 1) (pN P) (Nat.le_refl _) with q | ⟨o, h1, h2, h3, h4⟩
  · exact Or.inl q
  · refine Or.inr ⟨o, h1, h2, (nI_eq (hP.b o h1).1 (hP.b i hi).1).mp h3, ?_⟩
    have b1 := (hP.b o h1).2
    have b2 := (hP.b i hi).2
    have hl := (hP.2.2.2.2.1 i hi).2
    have hn := cnt_le (pC P) (pC P i) (pN P)
    have h8 := hP.2.1
    split at h4
    · left
      rw [nI_1, nI_eq b1 (by omega)] at h4
      exact h4
    · right
      rcases Nat.eq_zero_or_pos (pL P i) with z | z
      · rw [z] at h4
        exact absurd h4 (fun w => nI_pos b1 (by rw [w]; decide))
      · rw [show (1 : Int32) = nI 1 by decide, pk_sub z, nI_eq b1 (by omega)] at h4
        omega
def heldP (P : Pk) (i o ln : Nat) : Prop := ∃ k, k + 1 < pN P ∧ crs P k = true ∧ lin P k = ln ∧ lwL P k ≤ (if pL P o < pL P i then pL P o else pL P i) ∧ (if pL P i < pL P o then pL P o else pL P i) ≤ hgL P k
def gapP (P : Pk) (i o : Nat) : Prop := (pC P i = 0 ∧ ¬ heldP P i o 0) ∨ (pC P i + 1 = pW P ∧ ¬ heldP P i o (pW P))
def shutM (P : Pk) (i o : Nat) (r : Bool) : Prop := ∃ k, k + 1 < pN P ∧ pC P k = pC P (k + 1) ∧ pC P k = pC P i ∧ pU P k = r ∧ lwL P k ≤ (if pL P i < pL P o then pL P i else pL P o) ∧ (if pL P i < pL P o then pL P i else pL P o) + 1 ≤ hgL P k
theorem shut_held {P : Pk} (hP : PkV P) {i o : Nat} (hi : i < pN P) (ho : o < pN P) (hc : pC P o = pC P i) (hl : pL P o = pL P i + 1 ∨ pL P i = pL P o + 1) : (pC P i = 0 → (shutM P i o false ↔ heldP P i o 0)) ∧ (pC P i + 1 = pW P → (shutM P i o true ↔ heldP P i o (pW P))) := by
  have hA := hP.A
  have m1 : (if pL P o < pL P i then pL P o else pL P i) = (if pL P i < pL P o then pL P i else pL P o) := by split <;> split <;> omega
  have m2 : (if pL P i < pL P o then pL P o else pL P i) = (if pL P i < pL P o then pL P i else pL P o) + 1 := by split <;> omega
  unfold shutM heldP
  rw [m1, m2]
  refine ⟨fun h0 => ⟨?_, ?_⟩, fun h0 => ⟨?_, ?_⟩⟩
  · rintro ⟨k, q1, q2, q3, q4, q5, q6⟩
    refine ⟨k, q1, crs_t q2, ?_, q5, q6⟩
    rcases lin_c hA q1 q2 with ⟨w1, _, e⟩ | ⟨w1, _, e⟩
    · exact (bno w1 q4).elim
    · omega
  · rintro ⟨k, q1, q2, q3, q5, q6⟩
    have q2' : pC P k = pC P (k + 1) := by unfold crs at q2; exact beq_iff_eq.mp q2
    rcases lin_c hA q1 q2' with ⟨w1, _, e⟩ | ⟨w1, _, e⟩
    · omega
    · exact ⟨k, q1, q2', by omega, w1, q5, q6⟩
  · rintro ⟨k, q1, q2, q3, q4, q5, q6⟩
    refine ⟨k, q1, crs_t q2, ?_, q5, q6⟩
    rcases lin_c hA q1 q2 with ⟨w1, _, e⟩ | ⟨w1, _, e⟩
    · omega
    · exact (bno q4 w1).elim
  · rintro ⟨k, q1, q2, q3, q5, q6⟩
    have q2' : pC P k = pC P (k + 1) := by unfold crs at q2; exact beq_iff_eq.mp q2
    have hk := (hP.2.2.2.2.1 k (by omega)).1
    rcases lin_c hA q1 q2' with ⟨w1, _, e⟩ | ⟨w1, _, e⟩
    · exact ⟨k, q1, q2', by omega, w1, q5, q6⟩
    · omega
def bdP (T : Sht) (left i o : Nat) : Prop := ∃ k, k < left ∧ (yK T k).2.2.2.2.testBit i = true ∧ (yK T k).2.2.2.2.testBit o = true
def vrP (P : Pk) (i : Nat) : Nat → Int32 := vr5 6 (nI (cnt (pC P) (pC P i) (pN P))) (nI (pC P i)) (nI i) (nI (pL P i))
noncomputable def ppJ (Rs : List Rul) (T : Sht) (left i : Nat) : Int32 := @ite _ (fcI (yP T left) i = -1 ∨ bdP T left i (fcI (yP T left) i).toNatClampNeg ∨ ¬ gapP (yP T left) i (fcI (yP T left) i).toNatClampNeg) (Classical.propDecidable _) (-1) (fwJ (vrP (yP T left) i) 3 (-1) Rs)
theorem pp_no {Rs : List Rul} {T : Sht} {left i : Nat} (h : fcI (yP T left) i = -1 ∨ bdP T left i (fcI (yP T left) i).toNatClampNeg ∨ ¬ gapP (yP T left) i (fcI (yP T left) i).toNatClampNeg) : ppJ Rs T left i = -1 := by unfold ppJ; rw [if_pos h]
theorem pp_yes {Rs : List Rul} {T : Sht} {left i : Nat} (h : ¬ (fcI (yP T left) i = -1 ∨ bdP T left i (fcI (yP T left) i).toNatClampNeg ∨ ¬ gapP (yP T left) i (fcI (yP T left) i).toNatClampNeg)) : ppJ Rs T left i = fwJ (vrP (yP T left) i) 3 (-1) Rs := by unfold ppJ; rw [if_neg h]
theorem fw_nat {vr : Nat → Int32} {s : Nat} {Rs : List Rul} : fwJ vr s (-1) Rs = -1 ∨ ∃ k : Nat, k ≤ 1000 ∧ fwJ vr s (-1) Rs = nI k := by
  unfold fwJ
  split
  · exact Or.inl rfl
  · exact Or.inr (hld_nat _)
theorem pp_nat {Rs : List Rul} {T : Sht} {left i : Nat} : ppJ Rs T left i = -1 ∨ ∃ k : Nat, k ≤ 1000 ∧ ppJ Rs T left i = nI k := by
  by_cases h : fcI (yP T left) i = -1 ∨ bdP T left i (fcI (yP T left) i).toNatClampNeg ∨ ¬ gapP (yP T left) i (fcI (yP T left) i).toNatClampNeg
  · exact Or.inl (pp_no h)
  · rw [pp_yes h]; exact fw_nat
section PEP
variable {γ : rG} {l : Launch} {sh : Nat × (Nat → Nat) × (Nat → Nat)} {I : Nat → Nat → Int32} {J : Nat → Nat → Int64} {R : Nat → Nat → Option Nat} {a p m q s n : Nat} {P : Pk} {Rs : List Rul} {T : Sht}
theorem ct_canBeRead {i : Nat} (hA : At2 sh R a) (hP : PkV P) (hC : PkC I a P) (hi : i < pN P) : rMet γ l m_X2_canBeRead [.ref a, .int (nI i)] (sh, I, J, R) (sh, I, J, R) (some (.int (bz (rdP P i)))) := by
  have h8 := hP.2.1
  have hv : vp_in (nI i) 8 := vp_in_nI (by omega) (by decide)
  obtain ⟨q1, q2, q3⟩ := hC.2.2.1 i hi
  obtain ⟨b1, b2⟩ := hP.b i hi
  have hcw := (hP.2.2.2.2.1 i hi).1
  have hw := hP.2.2.2.1
  have hpos := hP.2.2.2.2.2.2.1 (pC P i) hcw
  have hle := cnt_le (pC P) (pC P i) (pN P)
  refine e_X2_canBeRead (rW_pure (w_X2_canBeRead_0 hA ⟨hv, ?_⟩))
  rw [nI_clamp (show i < 2 ^ 31 by omega), q1, q2, q3, nI_clamp b1, hC.2.2.2.1 _ (by omega), nz_0, show (1 : Int32) = nI 1 by decide, pk_sub hpos, nI_eq b2 (by omega)]
  refine ⟨fun z => ⟨hv, fun y => ⟨rfl, ?_⟩, fun y => ⟨rfl, ?_⟩⟩, fun z => ⟨hv, hv, vp_in_nI (by omega) (by decide), fun y => ⟨rfl, ?_⟩, fun y => ⟨rfl, ?_⟩⟩⟩
  · rw [bz_t]; · rfl
    unfold rdP; rw [z]; rw [show (0 : Int32) = nI 0 by decide, nI_eq b2 (by decide)] at y; exact y
  · rw [bz_f]
    unfold rdP; rw [z]; intro w; exact y (by rw [show pL P i = 0 from w]; decide)
  · rw [bz_t]; · rfl
    unfold rdP; rw [if_pos (by simpa using z)]; omega
  · rw [bz_f]
    unfold rdP; rw [if_pos (by simpa using z)]; omega
theorem ct_isRead {i : Nat} (hA : At9 sh R m) (hq : q < 22) (hP : PkV P) (hM : PkM I m q P) (hi : i < pN P) : rMet γ l m_X9_isRead [.ref m, .int (nI q), .int (nI i)] (sh, I, J, R) (sh, I, J, R) (some (.int (bz (rdP P i)))) := by
  have h8 := hP.2.1
  obtain ⟨m1, m2, m3, m4, m5⟩ := mM hM hq h8 hi
  obtain ⟨b1, b2⟩ := hP.b i hi
  have hcw := (hP.2.2.2.2.1 i hi).1
  have hw := hP.2.2.2.1
  have hpos := hP.2.2.2.2.2.2.1 (pC P i) hcw
  have hle := cnt_le (pC P) (pC P i) (pN P)
  refine e_X9_isRead (rW_pure (w_X9_isRead_0 hA ⟨m2, m2, ?_⟩))
  rw [m1, m3, m4, m5, nz_0]
  refine ⟨fun z => ⟨fun y => ⟨rfl, ?_⟩, fun y => ⟨rfl, ?_⟩⟩, fun z => ⟨m2, _, ct_layersOf hA hq h8 hM, ?_⟩⟩
  · rw [bz_t]
    unfold rdP; rw [z]; rw [show (0 : Int32) = nI 0 by decide, nI_eq b2 (by decide)] at y; exact y
  · rw [bz_f]
    unfold rdP; rw [z]; intro w; exact y (by rw [show pL P i = 0 from w]; decide)
  · rw [own_eq hP hcw, show (1 : Int32) = nI 1 by decide, pk_sub hpos, nI_eq b2 (by omega)]
    refine ⟨fun y => ⟨rfl, ?_⟩, fun y => ⟨rfl, ?_⟩⟩
    · rw [bz_t]; · rfl
      unfold rdP; rw [if_pos (by simpa using z)]; omega
    · rw [bz_f]
      unfold rdP; rw [if_pos (by simpa using z)]; omega
theorem ct_facing {i : Nat} (hA : At2 sh R a) (hP : PkV P) (hC : PkC I a P) (hi : i < pN P) : rMet γ l m_X2_facing [.ref a, .int (nI i)] (sh, I, J, R) (sh, I, J, R) (some (.int (fcI P i))) := by
  have h8 := hP.2.1
  have hv : vp_in (nI i) 8 := vp_in_nI (by omega) (by decide)
  obtain ⟨q1, q2, q3⟩ := hC.2.2.1 i hi
  refine e_X2_facing (rW_pure (w_X2_facing_0 hA ⟨hv, hv, ?_⟩))
  rw [nI_clamp (show i < 2 ^ 31 by omega), q1, q2, q3, nz_0]
  refine ⟨fun z => ⟨hv, _, ct_partAt hA hP hC, rfl, ?_⟩, fun z => ⟨hv, _, ct_partAt hA hP hC, rfl, ?_⟩⟩
  · unfold fcI; rw [z]; rfl
  · unfold fcI; rw [if_pos (by simpa using z)]
theorem held_loop {i o ln : Nat} (hA : At2 sh R a) (hP : PkV P) (hC : PkC I a P) (hi : i < pN P) (ho : o < pN P) (hln : ln < 2 ^ 31) : ∀ j k, k + j + 1 = pN P → (∀ x, x < k → ¬ (x + 1 < pN P ∧ crs P x = true ∧ lin P x = ln ∧ lwL P x ≤ (if pL P o < pL P i then pL P o else pL P i) ∧ (if pL P i < pL P o then pL P o else pL P i) ≤ hgL P x)) → s_X2_isHeld_37 γ l a (nI ln) (nI (if pL P o < pL P i then pL P o else pL P i)) (nI (if pL P i < pL P o then pL P o else pL P i)) (nI k) (sh, I, J, R) (fun hf v => hf = (sh, I, J, R) ∧ v = some (.int (bz (heldP P i o ln)))) := by
  have h8 := hP.2.1
  have bi := (hP.b i hi).2
  have bo := (hP.b o ho).2
  have eN : I a 0 - 1 = nI (pN P - 1) := by rw [hC.1, show (1 : Int32) = nI 1 by decide, pk_sub (by omega)]
  intro j
  induction j with
  | zero =>
    intro k hk hb
    refine w_X2_isHeld_37 hA ⟨fun _ => ⟨rfl, ?_⟩, fun z => absurd (by rw [eN]; exact nI_le (by omega) (by omega)) z⟩
    rw [bz_f]
    rintro ⟨x, q1, q2⟩
    exact hb x (by omega) ⟨q1, q2⟩
  | succ j ih =>
    intro k hk hb
    have hk1 : k + 1 < pN P := by omega
    have nx : ¬ (k + 1 < pN P ∧ crs P k = true ∧ lin P k = ln ∧ lwL P k ≤ (if pL P o < pL P i then pL P o else pL P i) ∧ (if pL P i < pL P o then pL P o else pL P i) ≤ hgL P k) → s_X2_isHeld_37 γ l a (nI ln) (nI (if pL P o < pL P i then pL P o else pL P i)) (nI (if pL P i < pL P o then pL P o else pL P i)) (nI k + 1) (sh, I, J, R) (fun hf v => hf = (sh, I, J, R) ∧ v = some (.int (bz (heldP P i o ln)))) := by
      intro h
      rw [nI_1]
      refine ih (k + 1) (by omega) (fun x hx => ?_)
      by_cases e : x = k
      · subst e; exact h
      · exact hb x (by omega)
    have q2 := (hC.2.2.1 k (by omega)).2.1
    have q3 := (hC.2.2.1 (k + 1) (by omega)).2.1
    have b1 := (hP.b k (by omega)).2
    have b2 := (hP.b (k + 1) (by omega)).2
    have hv : vp_in (nI k) 8 := vp_in_nI (by omega) (by decide)
    have hv1 : vp_in (nI (k + 1)) 8 := vp_in_nI (by omega) (by decide)
    have elo : (if nI (pL P (k + 1)) < nI (pL P k) then nI (pL P (k + 1)) else nI (pL P k)) = nI (lwL P k) := by
      unfold lwL
      by_cases q : pL P k < pL P (k + 1)
      · rw [if_pos q, if_neg (nI_nlt (by omega) b2)]
      · rw [if_neg q]
        by_cases q' : pL P (k + 1) < pL P k
        · rw [if_pos (nI_lt q' b1)]
        · rw [show pL P (k + 1) = pL P k by omega]; split <;> rfl
    have ehi : (if nI (pL P k) < nI (pL P (k + 1)) then nI (pL P (k + 1)) else nI (pL P k)) = nI (hgL P k) := by
      unfold hgL
      by_cases q : pL P k < pL P (k + 1)
      · rw [if_pos q, if_pos (nI_lt q b2)]
      · rw [if_neg q, if_neg (nI_nlt (by omega) b1)]
    have lb : lwL P k < 2 ^ 31 ∧ hgL P k < 2 ^ 31 := lh_31 hP hk1
    have lob : (if pL P o < pL P i then pL P o else pL P i) < 2 ^ 31 := by split <;> omega
    have hib : (if pL P i < pL P o then pL P o else pL P i) < 2 ^ 31 := by split <;> omega
    refine w_X2_isHeld_37 hA ⟨fun z => absurd z (by rw [eN]; exact nI_ge (by omega) (by omega)), fun _ => ⟨_, ct_isCrease hA hP hC hk1, fun z => nx (fun w => ?_), fun z => ⟨_, ct_lineOf hA hP hC hk1, ?_⟩⟩⟩
    · rw [w.2.1] at z; exact absurd z (by decide)
    · rw [nI_eq (lin_31 hP hk1) hln, nI_1, nI_clamp (show k < 2 ^ 31 by omega), nI_clamp (show k + 1 < 2 ^ 31 by omega), q2, q3, elo, ehi, nI_ltI lob lb.1, nI_ltI lb.2 hib]
      refine ⟨fun y => ⟨hv, hv1, fun x => ?_, fun x => ⟨hv, hv1, fun w => ?_, fun w => ⟨rfl, ?_⟩⟩⟩, fun y => ?_⟩
      · have := nx (fun t => by omega); rw [nI_1] at this; exact this
      · have := nx (fun t => by omega); rw [nI_1] at this; exact this
      · rw [bz_t]
        exact ⟨k, hk1, by cases t : crs P k; rw [t] at z; exact absurd (by decide) z; rfl, y, by omega, by omega⟩
      · have := nx (fun t => y t.2.2.1); rw [nI_1] at this; exact this
theorem ct_isHeld {i o ln : Nat} (hA : At2 sh R a) (hP : PkV P) (hC : PkC I a P) (hi : i < pN P) (ho : o < pN P) (hln : ln < 2 ^ 31) : rMet γ l m_X2_isHeld [.ref a, .int (nI i), .int (nI o), .int (nI ln)] (sh, I, J, R) (sh, I, J, R) (some (.int (bz (heldP P i o ln)))) := by
  have h8 := hP.2.1
  have h2 := hP.1
  have bi := (hP.b i hi).2
  have bo := (hP.b o ho).2
  have hv : vp_in (nI i) 8 := vp_in_nI (by omega) (by decide)
  have hv1 : vp_in (nI o) 8 := vp_in_nI (by omega) (by decide)
  have q2 := (hC.2.2.1 i hi).2.1
  have q3 := (hC.2.2.1 o ho).2.1
  have lp := held_loop (γ := γ) (l := l) (J := J) hA hP hC hi ho hln (pN P - 1) 0 (by omega) (fun x hx => by omega)
  refine e_X2_isHeld (rW_pure (w_X2_isHeld_0 hA ⟨hv, hv1, hv, hv1, ?_⟩))
  rw [nI_clamp (show i < 2 ^ 31 by omega), nI_clamp (show o < 2 ^ 31 by omega), q2, q3]
  have e1 : (if nI (pL P o) < nI (pL P i) then nI (pL P o) else nI (pL P i)) = nI (if pL P o < pL P i then pL P o else pL P i) := by
    by_cases c : pL P o < pL P i
    · rw [if_pos c, if_pos (nI_lt c bi)]
    · rw [if_neg c, if_neg (nI_nlt (by omega) bo)]
  have e2 : (if nI (pL P i) < nI (pL P o) then nI (pL P o) else nI (pL P i)) = nI (if pL P i < pL P o then pL P o else pL P i) := by
    by_cases c : pL P i < pL P o
    · rw [if_pos c, if_pos (nI_lt c bo)]
    · rw [if_neg c, if_neg (nI_nlt (by omega) bi)]
  rw [e1, e2]
  exact lp
theorem ct_gapes {i o : Nat} (hA : At2 sh R a) (hP : PkV P) (hC : PkC I a P) (hi : i < pN P) (ho : o < pN P) : rMet γ l m_X2_gapes [.ref a, .int (nI i), .int (nI o)] (sh, I, J, R) (sh, I, J, R) (some (.int (bz (gapP P i o)))) := by
  have h8 := hP.2.1
  have hw := hP.2.2.2.1
  have hw1 := hP.2.2.1
  have bi := (hP.b i hi).1
  have hv : vp_in (nI i) 8 := vp_in_nI (by omega) (by decide)
  have q1 := (hC.2.2.1 i hi).1
  have eW : I a 1 - 1 = nI (pW P - 1) := by rw [hC.2.1, show (1 : Int32) = nI 1 by decide, pk_sub hw1]
  have b58 : ∀ (x y : Prop), (gapP P i o ↔ x ∨ y) → s_X2_gapes_58 γ l (bz x) (bz y) (sh, I, J, R) (fun hf v => hf = (sh, I, J, R) ∧ v = some (.int (bz (gapP P i o)))) := by
    intro x y h
    refine w_X2_gapes_58 ?_
    rw [bz_0, bz_0]
    refine ⟨fun z => ⟨fun w => ⟨rfl, ?_⟩, fun w => ⟨rfl, ?_⟩⟩, fun z => ⟨rfl, ?_⟩⟩
    · rw [bz_f]; rw [h]; exact fun t => t.elim z w
    · rw [bz_t]; rw [h]; exact Or.inr (Classical.byContradiction w)
    · rw [bz_t]; rw [h]; exact Or.inl (Classical.byContradiction z)
  have b24 : ∀ x : Prop, (x ↔ (pC P i = 0 ∧ ¬ heldP P i o 0)) → s_X2_gapes_24 γ l a (nI i) (nI o) (bz x) (sh, I, J, R) (fun hf v => hf = (sh, I, J, R) ∧ v = some (.int (bz (gapP P i o)))) := by
    intro x hx
    refine w_X2_gapes_24 hA ⟨hv, ?_⟩
    rw [nI_clamp (by omega), q1, eW, nI_eq bi (by omega), hC.2.1]
    refine ⟨fun z => ⟨_, ct_isHeld hA hP hC hi ho (by omega), fun y => ?_, fun y => ?_⟩, fun z => ?_⟩
    · rw [bz_0] at y
      have := b58 x True (by unfold gapP; rw [hx]; exact ⟨fun _ => Or.inr trivial, fun _ => Or.inr ⟨by omega, y⟩⟩)
      rw [bz_t (p := True) trivial] at this
      exact this
    · rw [bz_0, Classical.not_not] at y
      have := b58 x False (by unfold gapP; rw [hx]; exact ⟨fun t => t.elim Or.inl (fun t => absurd y t.2), fun t => t.elim Or.inl (fun t => t.elim)⟩)
      rw [bz_f (p := False) id] at this
      exact w_X2_gapes_57 this
    · have := b58 x False (by unfold gapP; rw [hx]; exact ⟨fun t => t.elim Or.inl (fun t => by omega), fun t => t.elim Or.inl (fun t => t.elim)⟩)
      rw [bz_f (p := False) id] at this
      exact w_X2_gapes_57 this
  refine e_X2_gapes (rW_pure (w_X2_gapes_0 hA ⟨hv, ?_⟩))
  rw [nI_clamp (by omega), q1]
  refine ⟨fun z => ?_, fun z => ?_⟩
  · have z0 : pC P i = 0 := by rw [show (0 : Int32) = nI 0 by decide, nI_eq bi (by decide)] at z; exact z
    have ch := ct_isHeld (γ := γ) (l := l) (J := J) (ln := 0) hA hP hC hi ho (by decide)
    rw [nI_0] at ch
    refine ⟨_, ch, fun y => ?_, fun y => ?_⟩
    · rw [bz_0] at y
      have := b24 True ⟨fun _ => ⟨z0, y⟩, fun _ => trivial⟩
      rw [bz_t (p := True) trivial] at this
      exact this
    · rw [bz_0, Classical.not_not] at y
      have := b24 False ⟨fun t => t.elim, fun t => t.2 y⟩
      rw [bz_f (p := False) id] at this
      exact w_X2_gapes_23 hA this
  · have z0 : pC P i ≠ 0 := fun t => z (by rw [t]; decide)
    have := b24 False ⟨fun t => t.elim, fun t => z0 t.1⟩
    rw [bz_f (p := False) id] at this
    exact w_X2_gapes_23 hA this
theorem ct_isOpen {i o : Nat} {r : Bool} (hA : At9 sh R m) (hq : q < 22) (hP : PkV P) (hM : PkM I m q P) (hi : i < pN P) (ho : o < pN P) : rMet γ l m_X9_isOpen [.ref m, .int (nI q), .int (nI i), .int (nI o), .int (nz r)] (sh, I, J, R) (sh, I, J, R) (some (.int (bz (¬ shutM P i o r)))) := by
  have h8 := hP.2.1
  have h2 := hP.1
  have bi := (hP.b i hi).2
  have bo := (hP.b o ho).2
  obtain ⟨m1, m2, m3, m4, m5⟩ := mM hM hq h8 hi
  obtain ⟨k1, k2, k3, k4, k5⟩ := mM hM hq h8 ho
  have lob : (if pL P i < pL P o then pL P i else pL P o) < 2 ^ 31 - 1 := by
    have := (hP.2.2.2.2.1 i hi).2
    have := (hP.2.2.2.2.1 o ho).2
    have := cnt_le (pC P) (pC P i) (pN P)
    have := cnt_le (pC P) (pC P o) (pN P)
    split <;> omega
  generalize hlo : (if pL P i < pL P o then pL P i else pL P o) = lo at lob
  have lp : ∀ j k, k + j + 1 = pN P → (∀ x, x < k → ¬ (x + 1 < pN P ∧ pC P x = pC P (x + 1) ∧ pC P x = pC P i ∧ pU P x = r ∧ lwL P x ≤ lo ∧ lo + 1 ≤ hgL P x)) → s_X9_isOpen_55 γ l m (nI q) (nI i) (nz r) (nI lo) (nI k) (sh, I, J, R) (fun hf v => hf = (sh, I, J, R) ∧ v = some (.int (bz (¬ shutM P i o r)))) := by
    intro j
    induction j with
    | zero =>
      intro k hk hb
      refine w_X9_isOpen_55 hA ⟨fun _ => ⟨rfl, ?_⟩, fun z => absurd (by rw [hM.1, nI_1]; exact nI_le (by omega) (by omega)) z⟩
      rw [bz_t]
      rintro ⟨x, q1, q2⟩
      rw [hlo] at q2
      exact hb x (by omega) ⟨q1, q2⟩
    | succ j ih =>
      intro k hk hb
      have hk1 : k + 1 < pN P := by omega
      have nx : ¬ (k + 1 < pN P ∧ pC P k = pC P (k + 1) ∧ pC P k = pC P i ∧ pU P k = r ∧ lwL P k ≤ lo ∧ lo + 1 ≤ hgL P k) → s_X9_isOpen_55 γ l m (nI q) (nI i) (nz r) (nI lo) (nI k + 1) (sh, I, J, R) (fun hf v => hf = (sh, I, J, R) ∧ v = some (.int (bz (¬ shutM P i o r)))) := by
        intro h
        rw [nI_1]
        refine ih (k + 1) (by omega) (fun x hx => ?_)
        by_cases e : x = k
        · subst e; exact h
        · exact hb x (by omega)
      obtain ⟨n1, n2, n3, n4, n5⟩ := mM hM hq h8 (show k < pN P by omega)
      have lb := lh_31 hP hk1
      refine w_X9_isOpen_55 hA ⟨fun z => absurd z (by rw [hM.1, nI_1]; exact nI_ge (by omega) (by omega)), fun _ => ⟨_, ct_mCr hA hq hP hM (by omega), fun z => nx (fun w => bz_0.mp z ⟨w.1, w.2.1⟩), fun z => ⟨n2, m2, ?_⟩⟩⟩
      rw [bz_0, Classical.not_not] at z
      rw [n1, m1, n3, m3, n5, nI_eq (hP.b k (by omega)).1 (hP.b i hi).1, nz_eq]
      refine ⟨fun y => ⟨n2, fun x => ⟨_, ct_low hA hq hP hM hk1, ?_⟩, fun x => nx (fun w => x w.2.2.2.1)⟩, fun y => nx (fun w => y w.2.2.1)⟩
      rw [nI_ltI (by omega) lb.1]
      refine ⟨fun w => nx (fun t => by omega), fun w => ⟨_, ct_high hA hq hP hM hk1, ?_⟩⟩
      rw [nI_1, nI_ltI lb.2 (by omega)]
      refine ⟨fun u => nx (fun t => by omega), fun u => ⟨rfl, ?_⟩⟩
      · rw [bz_f]
        intro t
        exact t ⟨k, hk1, z.2, y, x, by rw [hlo]; omega, by rw [hlo]; omega⟩
  have lp0 := lp (pN P - 1) 0 (by omega) (fun x hx => by omega)
  refine e_X9_isOpen (rW_pure (w_X9_isOpen_0 hA ⟨m2, k2, ?_⟩))
  rw [m1, k1, m4, k4, nI_leI bo bi]
  refine ⟨fun z => ⟨k2, ?_⟩, fun z => ⟨m2, ?_⟩⟩
  · rw [if_neg (by omega)] at hlo; rw [← hlo] at lp0; exact lp0
  · rw [if_pos (by omega)] at hlo; rw [← hlo] at lp0; exact lp0
theorem bit_two {x i o : Nat} (hx : x < 2 ^ 31) (hi : i < 31) (ho : o < 31) : (nI x &&& (((1 : Int32) <<< (nI i &&& 31)) ||| ((1 : Int32) <<< (nI o &&& 31)))) = (((1 : Int32) <<< (nI i &&& 31)) ||| ((1 : Int32) <<< (nI o &&& 31))) ↔ (x.testBit i = true ∧ x.testBit o = true) := by
  have hor : 2 ^ i ||| 2 ^ o < 2 ^ 31 := Nat.or_lt_two_pow (bt_p hi) (bt_p ho)
  have hand : x &&& (2 ^ i ||| 2 ^ o) < 2 ^ 31 := Nat.lt_of_le_of_lt Nat.and_le_left hx
  rw [bt_one hi, bt_one ho, bt_or (bt_p hi) (bt_p ho), bt_and hx hor, nI_eq hand hor]
  constructor
  · intro h
    refine ⟨?_, ?_⟩
    · have := congrArg (fun z => z.testBit i) h
      simp [Nat.testBit_and, Nat.testBit_or, Nat.testBit_two_pow] at this
      exact this
    · have := congrArg (fun z => z.testBit o) h
      simp [Nat.testBit_and, Nat.testBit_or, Nat.testBit_two_pow] at this
      exact this
  · rintro ⟨h1, h2⟩
    apply Nat.eq_of_testBit_eq
    intro k
    rw [Nat.testBit_and, Nat.testBit_or, Nat.testBit_two_pow, Nat.testBit_two_pow]
    by_cases e1 : i = k
    · subst e1; simp [h1]
    · by_cases e2 : o = k
      · subst e2; simp [h2]
      · simp [e1, e2]
theorem ct_areBound {i o left : Nat} (hA : At5 sh R a) (hVs : V_sheet n T) (hCs : C_sheet I a T) (hl : left ≤ yA T) (hi : i < 8) (ho : o < 8) : rMet γ l m_X5_areBound [.ref a, .int (nI i), .int (nI o), .int (nI left)] (sh, I, J, R) (sh, I, J, R) (some (.int (bz (bdP T left i o)))) := by
  have h16 := hVs.2.2.1
  have lp : ∀ j k, k + j = left → (∀ x, x < k → ¬ ((yK T x).2.2.2.2.testBit i = true ∧ (yK T x).2.2.2.2.testBit o = true)) → s_X5_areBound_12 γ l a (nI left) (((1 : Int32) <<< (nI i &&& 31)) ||| ((1 : Int32) <<< (nI o &&& 31))) (nI k) (sh, I, J, R) (fun hf v => hf = (sh, I, J, R) ∧ v = some (.int (bz (bdP T left i o)))) := by
    intro j
    induction j with
    | zero =>
      intro k hk hb
      refine w_X5_areBound_12 hA ⟨fun _ => ⟨rfl, ?_⟩, fun z => absurd (nI_le (by omega) (by omega)) z⟩
      rw [bz_f]
      rintro ⟨x, q1, q2⟩
      exact hb x (by omega) q2
    | succ j ih =>
      intro k hk hb
      have hbd := (hVs.2.2.2.2.2.2.2 k (by omega)).2.2.2.2
      refine w_X5_areBound_12 hA ⟨fun z => absurd z (nI_ge (by omega) (by omega)), fun _ => ⟨vp_in_nI (by omega) (by decide), ?_⟩⟩
      rw [nI_clamp (by omega), (hCs.2.2.2 k (by omega)).2.2.2.2, bit_two (by omega) (by omega) (by omega), nI_1]
      refine ⟨fun z => ⟨rfl, ?_⟩, fun z => ih (k + 1) (by omega) (fun x hx => ?_)⟩
      · rw [bz_t]; exact ⟨k, by omega, z⟩
      · by_cases e : x = k
        · subst e; exact z
        · exact hb x (by omega)
  exact e_X5_areBound (rW_pure (w_X5_areBound_0 hA (lp left 0 (by omega) (fun x hx => by omega))))
theorem ct_peepPrice {i left : Nat} (hA5 : At5 sh R a) (hA : At3 sh R p) (hVs : V_sheet n T) (hCs : C_sheet I a T) (hV : V_prc Rs) (hC : PrC I p Rs) (hl : left ≤ yA T) (hi : i < yN T) :
    ∃ I', rMet γ l m_X5_peepPrice [.ref a, .int (nI i), .int (nI left), .ref p] (sh, I, J, R) (sh, I', J, R) (some (.int (ppJ Rs T left i))) ∧ Sm (Pp p) I I' := by
  have h16 := hVs.2.2.1
  obtain ⟨hP, hN⟩ := hVs.2.2.2.2.2.1 left hl
  have hi' : i < pN (yP T left) := by omega
  have h8 := hP.2.1
  have hw := hP.2.2.2.1
  have hB := At5_p hA5 left (by omega)
  have hCp := hCs.2.2.1 left hl
  obtain ⟨q1, q2, q3⟩ := hCp.2.2.1 i hi'
  obtain ⟨b1, b2⟩ := hP.b i hi'
  have hcw := (hP.2.2.2.2.1 i hi').1
  have hv : vp_in (nI i) 8 := vp_in_nI (by omega) (by decide)
  have key : s_X5_peepPrice_0 γ l a (nI i) (nI left) p (sh, I, J, R) (fun hf v => ∃ I', hf = (sh, I', J, R) ∧ v = some (.int (ppJ Rs T left i)) ∧ Sm (Pp p) I I') := by
    refine w_X5_peepPrice_0 hA5 hA ⟨vp_in_nI (by omega) (by decide), a + 9 + 6 * left, by rw [nI_clamp (by omega)]; exact hB.1, hB.2, _, ct_facing hB.2 hP hCp hi', fun z => ⟨I, rfl, ?_, Sm.rf⟩, fun z => ?_⟩
    · rw [pp_no (Or.inl z)]
    · rcases fc_or hP hi' with e | ⟨o, ho, eo, hc, hlo⟩
      · exact absurd e z
      · have eo2 : (fcI (yP T left) i).toNatClampNeg = o := by rw [eo]; exact nI_clamp (by omega)
        rw [eo]
        refine ⟨_, ct_areBound hA5 hVs hCs hl (by omega) (by omega), fun y => ⟨_, ct_gapes hB.2 hP hCp hi' ho, fun x => ⟨I, rfl, ?_, Sm.rf⟩, fun x => ?_⟩, fun y => ⟨I, rfl, ?_, Sm.rf⟩⟩
        · rw [bz_0] at x; rw [pp_no (Or.inr (Or.inr (by rw [eo2]; exact x)))]
        · rw [bz_0] at y
          rw [bz_0, Classical.not_not] at x
          have hyes : ¬ (fcI (yP T left) i = -1 ∨ bdP T left i (fcI (yP T left) i).toNatClampNeg ∨ ¬ gapP (yP T left) i (fcI (yP T left) i).toNatClampNeg) := by
            rw [eo2]
            intro t
            rcases t with t | t | t
            · exact z t
            · exact y t
            · exact t x
          rw [nI_clamp (show i < 2 ^ 31 by omega), q1, q2, nI_clamp b1, hCp.2.2.2.1 _ (by omega)]
          have hC1 : PrC (vsI I (p + 6) 6 (nI (cnt (pC (yP T left)) (pC (yP T left) i) (pN (yP T left)))) (nI (pC (yP T left) i)) (nI i) (nI (pL (yP T left) i))) p Rs := hC.loc (fun b j q1 q2 => vsI_sm b j (by omega))
          obtain ⟨I2, d1, d2⟩ := ct_worthOfFirst (γ := γ) (l := l) (J := J) (vr := vrP (yP T left) i) (srt := 3) (wo := -1) hA hV hC1 (by decide) (fun j hj => vsI_at j hj)
          refine ⟨hv, vp_in_nI (by omega) (by decide), hv, _, ct_setVars hA, I2, _, d1, I2, rfl, ?_, fun b j w => ?_⟩
          · rw [pp_yes hyes]
          · unfold Pp at w
            rw [d2 b j (by omega), vsI_sm b j (by omega)]
        · rw [bz_0, Classical.not_not] at y
          rw [pp_no (Or.inr (Or.inl (by rw [eo2]; exact y)))]
  obtain ⟨I', h1, h2⟩ := rW_ex key
  exact ⟨I', e_X5_peepPrice h1, h2⟩
theorem cm_peepOf {i left : Nat} (hA : At9 sh R m) (hVs : V_sheet n T) (hMs : M_sheet I m T) (hV : V_prc Rs) (hM : PrM I m s Rs) (h18 : I m 18 = nI s) (hl : left ≤ yA T) (hi : i < yN T) :
    ∃ I', rMet γ l m_X9_peepOf [.ref m, .int (nI left), .int (nI i)] (sh, I, J, R) (sh, I', J, R) (some (.int (ppJ Rs T left i))) ∧ Sm (fun b _ => b = m + 23 ∨ b = m + 24) I I' := by
  have h16 := hVs.2.2.1
  obtain ⟨hP, hN⟩ := hVs.2.2.2.2.2.1 left hl
  have hi' : i < pN (yP T left) := by omega
  have h8 := hP.2.1
  have hw := hP.2.2.2.1
  have hw1 := hP.2.2.1
  have hMp := hMs.2.2.2.1 left hl
  obtain ⟨m1, m2, m3, m4, m5⟩ := mM hMp (show left < 22 by omega) h8 hi'
  obtain ⟨b1, b2⟩ := hP.b i hi'
  have hcw := (hP.2.2.2.2.1 i hi').1
  have b159 : ∀ g : Prop, (fcI (yP T left) i ≠ -1 ∧ ¬ bdP T left i (fcI (yP T left) i).toNatClampNeg ∧ (gapP (yP T left) i (fcI (yP T left) i).toNatClampNeg ↔ g)) → s_X9_peepOf_159 γ l m (nI left) (nI i) (nI (pC (yP T left) i)) (nI (pL (yP T left) i)) (bz g) (sh, I, J, R) (fun hf v => ∃ I', hf = (sh, I', J, R) ∧ v = some (.int (ppJ Rs T left i)) ∧ Sm (fun b _ => b = m + 23 ∨ b = m + 24) I I') := by
    intro g hg
    refine w_X9_peepOf_159 hA ⟨fun z => ⟨I, rfl, ?_, Sm.rf⟩, fun z => ?_⟩
    · rw [bz_0] at z; rw [pp_no (Or.inr (Or.inr (fun t => z (hg.2.2.mp t))))]
    · rw [bz_0, Classical.not_not] at z
      have hyes : ¬ (fcI (yP T left) i = -1 ∨ bdP T left i (fcI (yP T left) i).toNatClampNeg ∨ ¬ gapP (yP T left) i (fcI (yP T left) i).toNatClampNeg) := by
        intro t
        rcases t with t | t | t
        · exact hg.1 t
        · exact hg.2.1 t
        · exact t (hg.2.2.mpr z)
      have cl := ct_layersOf (γ := γ) (l := l) (J := J) (y := nI (pC (yP T left) i)) hA (show left < 22 by omega) h8 hMp
      rw [own_eq hP hcw] at cl
      have hM1 : PrM (vsI I (m + 23) 6 (nI (cnt (pC (yP T left)) (pC (yP T left) i) (pN (yP T left)))) (nI (pC (yP T left) i)) (nI i) (nI (pL (yP T left) i))) m s Rs := hM.loc (fun b j q1 q2 => vsI_sm b j (by omega))
      have h18' : vsI I (m + 23) 6 (nI (cnt (pC (yP T left)) (pC (yP T left) i) (pN (yP T left)))) (nI (pC (yP T left) i)) (nI i) (nI (pL (yP T left) i)) m 18 = nI s := (vsI_sm _ _ (by omega)).trans h18
      obtain ⟨I2, d1, d2⟩ := ct_ruleOf (γ := γ) (l := l) (J := J) (vr := vrP (yP T left) i) (srt := 3) hA hV hM1 h18' (by decide) (fun j hj => vsI_at j hj)
      have hS2 : Sm (fun b _ => b = m + 23 ∨ b = m + 24) I I2 := fun b j w => by rw [d2 b j (fun t => w (Or.inr t)), vsI_sm b j (fun t => w (Or.inl t))]
      refine ⟨_, cl, _, ct_asks hA, I2, _, d1, fun y => ⟨I2, rfl, ?_, hS2⟩, fun y => ?_⟩
      · rw [pp_yes hyes]; unfold fwJ; rw [if_pos y]
      · rcases fir_or (vr := vrP (yP T left) i) (s := 3) (Rs := Rs) with e | ⟨r, r1, r2⟩
        · exact absurd e y
        · have h17 := hV.1
          obtain ⟨I3, f1, f2⟩ := ct_says (γ := γ) (l := l) (J := J) (vr := vrP (yP T left) i) (r := r) hA hV (hM1.loc (fun b j q1 q2 => d2 b j (by simp; omega))) ((d2 _ _ (by simp)).trans h18') (fun j hj => (d2 _ _ (by simp)).trans (vsI_at j hj)) r1
          rw [r2]
          refine ⟨I3, _, f1, I3, rfl, ?_, hS2.tr (f2.mono (fun b j t => Or.inr t))⟩
          rw [pp_yes hyes]; unfold fwJ; rw [if_neg y, r2, nI_clamp (by omega)]
  have rest : ∀ o, o < pN (yP T left) → fcI (yP T left) i = nI o → pC (yP T left) o = pC (yP T left) i → (pL (yP T left) o = pL (yP T left) i + 1 ∨ pL (yP T left) i = pL (yP T left) o + 1) → s_X9_peepOf_69 γ l m (nI left) (nI i) (nI (pC (yP T left) i)) (nI (pL (yP T left) i)) (nI o) 0 (sh, I, J, R) (fun hf v => ∃ I', hf = (sh, I', J, R) ∧ v = some (.int (ppJ Rs T left i)) ∧ Sm (fun b _ => b = m + 23 ∨ b = m + 24) I I') := by
    intro o ho eo hc hlo
    have eo2 : (fcI (yP T left) i).toNatClampNeg = o := by rw [eo]; exact nI_clamp (by omega)
    have hne : fcI (yP T left) i ≠ -1 := by rw [eo]; exact nI_ne1 (by omega)
    have sh2 := shut_held hP hi' ho hc hlo
    have b130 : ¬ bdP T left i o → ¬ (pC (yP T left) i = 0 ∧ ¬ heldP (yP T left) i o 0) → s_X9_peepOf_130 γ l m (nI left) (nI i) (nI (pC (yP T left) i)) (nI (pL (yP T left) i)) (nI o) (sh, I, J, R) (fun hf v => ∃ I', hf = (sh, I', J, R) ∧ v = some (.int (ppJ Rs T left i)) ∧ Sm (fun b _ => b = m + 23 ∨ b = m + 24) I I') := by
      intro hnb hnl
      refine w_X9_peepOf_130 hA ⟨vp_in_nI (by omega) (by decide), ?_⟩
      rw [nI_clamp (by omega), hMp.2.1, show (1 : Int32) = nI 1 by decide, pk_sub hw1, nI_eq b1 (by omega)]
      have no : ¬ (pC (yP T left) i + 1 = pW (yP T left) ∧ ¬ heldP (yP T left) i o (pW (yP T left))) → s_X9_peepOf_158 γ l m (nI left) (nI i) (nI (pC (yP T left) i)) (nI (pL (yP T left) i)) (sh, I, J, R) (fun hf v => ∃ I', hf = (sh, I', J, R) ∧ v = some (.int (ppJ Rs T left i)) ∧ Sm (fun b _ => b = m + 23 ∨ b = m + 24) I I') := by
        intro hnr
        have := b159 False ⟨hne, by rw [eo2]; exact hnb, by rw [eo2]; exact ⟨fun t => t.elim hnl hnr, fun t => t.elim⟩⟩
        rw [bz_f (p := False) id] at this
        exact w_X9_peepOf_158 hA this
      refine ⟨fun z => ⟨_, ct_isOpen (r := true) hA (by omega) hP hMp hi' ho, fun y => ?_, fun y => ?_⟩, fun z => no (fun t => by omega)⟩
      · rw [bz_0, Classical.not_not] at y
        exact no (fun t => t.2 ((sh2.2 (by omega)).mp y))
      · rw [bz_0, Classical.not_not] at y
        have := b159 True ⟨hne, by rw [eo2]; exact hnb, by rw [eo2]; exact ⟨fun _ => trivial, fun _ => Or.inr ⟨by omega, fun t => y ((sh2.2 (by omega)).mpr t)⟩⟩⟩
        rw [bz_t (p := True) trivial] at this
        exact w_X9_peepOf_154 hA this
    have lp : ∀ j k, k + j = left → (∀ x, x < k → ¬ ((yK T x).2.2.2.2.testBit i = true ∧ (yK T x).2.2.2.2.testBit o = true)) → s_X9_peepOf_69 γ l m (nI left) (nI i) (nI (pC (yP T left) i)) (nI (pL (yP T left) i)) (nI o) (nI k) (sh, I, J, R) (fun hf v => ∃ I', hf = (sh, I', J, R) ∧ v = some (.int (ppJ Rs T left i)) ∧ Sm (fun b _ => b = m + 23 ∨ b = m + 24) I I') := by
      intro j
      induction j with
      | zero =>
        intro k hk hb
        have hnb : ¬ bdP T left i o := by
          rintro ⟨x, t1, t2⟩
          exact hb x (by omega) t2
        refine w_X9_peepOf_69 hA ⟨fun _ => ⟨fun z => ⟨_, ct_isOpen (r := false) hA (by omega) hP hMp hi' ho, fun y => ?_, fun y => ?_⟩, fun z => ?_⟩, fun z => absurd (nI_le (by omega) (by omega)) z⟩
        · rw [bz_0, Classical.not_not] at y
          exact b130 hnb (fun t => t.2 ((sh2.1 t.1).mp y))
        · rw [bz_0, Classical.not_not] at y
          have z0 : pC (yP T left) i = 0 := by rw [show (0 : Int32) = nI 0 by decide, nI_eq b1 (by decide)] at z; exact z
          have := b159 True ⟨hne, by rw [eo2]; exact hnb, by rw [eo2]; exact ⟨fun _ => trivial, fun _ => Or.inl ⟨z0, fun t => y ((sh2.1 z0).mpr t)⟩⟩⟩
          rw [bz_t (p := True) trivial] at this
          exact w_X9_peepOf_154 hA this
        · exact b130 hnb (fun t => z (by rw [t.1]; decide))
      | succ j ih =>
        intro k hk hb
        have hbd := (hVs.2.2.2.2.2.2.2 k (by omega)).2.2.2.2
        have hv : vp_in (nI k) 16 := vp_in_nI (by omega) (by decide)
        have nx : ¬ ((yK T k).2.2.2.2.testBit i = true ∧ (yK T k).2.2.2.2.testBit o = true) → s_X9_peepOf_69 γ l m (nI left) (nI i) (nI (pC (yP T left) i)) (nI (pL (yP T left) i)) (nI o) (nI (k + 1)) (sh, I, J, R) (fun hf v => ∃ I', hf = (sh, I', J, R) ∧ v = some (.int (ppJ Rs T left i)) ∧ Sm (fun b _ => b = m + 23 ∨ b = m + 24) I I') := by
          intro h
          refine ih (k + 1) (by omega) (fun x hx => ?_)
          by_cases e : x = k
          · subst e; exact h
          · exact hb x (by omega)
        refine w_X9_peepOf_69 hA ⟨fun z => absurd z (nI_ge (by omega) (by omega)), fun _ => ⟨hv, ?_⟩⟩
        rw [nI_clamp (by omega), (hMs.2.2.2.2 k (by omega)).2.2.2.2, bt_bit (by omega) (by omega), bt_bit (by omega) (by omega), nI_1]
        have nz1 : ∀ b : Bool, nz b = 1 ↔ b = true := fun b => by cases b <;> decide
        rw [nz1, nz1]
        refine ⟨fun z => ⟨hv, fun y => ⟨I, rfl, ?_, Sm.rf⟩, fun y => nx (fun t => y t.2)⟩, fun z => nx (fun t => z t.1)⟩
        rw [pp_no (Or.inr (Or.inl (by rw [eo2]; exact ⟨k, by omega, z, y⟩)))]
    have := lp left 0 (by omega) (fun x hx => by omega)
    rw [nI_0] at this
    exact this
  have key : s_X9_peepOf_0 γ l m (nI left) (nI i) (sh, I, J, R) (fun hf v => ∃ I', hf = (sh, I', J, R) ∧ v = some (.int (ppJ Rs T left i)) ∧ Sm (fun b _ => b = m + 23 ∨ b = m + 24) I I') := by
    refine w_X9_peepOf_0 hA ⟨m2, m2, m2, ?_⟩
    rw [m1, m3, m4, m5, nz_0]
    have both : ∀ y : Int32, fcI (yP T left) i = ptA (yP T left) (nI (pC (yP T left) i)) y → (ptA (yP T left) (nI (pC (yP T left) i)) y = -1 → ∃ I', (sh, I, J, R) = (sh, I', J, R) ∧ some (Value.int (-1)) = some (.int (ppJ Rs T left i)) ∧ Sm (fun b _ => b = m + 23 ∨ b = m + 24) I I') ∧ (¬ ptA (yP T left) (nI (pC (yP T left) i)) y = -1 → s_X9_peepOf_69 γ l m (nI left) (nI i) (nI (pC (yP T left) i)) (nI (pL (yP T left) i)) (ptA (yP T left) (nI (pC (yP T left) i)) y) 0 (sh, I, J, R) (fun hf v => ∃ I', hf = (sh, I', J, R) ∧ v = some (.int (ppJ Rs T left i)) ∧ Sm (fun b _ => b = m + 23 ∨ b = m + 24) I I')) := by
      intro y hy
      rw [← hy]
      refine ⟨fun z => ⟨I, rfl, by rw [pp_no (Or.inl z)], Sm.rf⟩, fun z => ?_⟩
      rcases fc_or hP hi' with e | ⟨o, ho, eo, hc, hlo⟩
      · exact absurd e z
      · rw [eo]; exact rest o ho eo hc hlo
    refine ⟨fun z => ⟨_, ct_mptA hA (by omega) h8 hMp, both _ ?_⟩, fun z => ⟨_, ct_mptA hA (by omega) h8 hMp, both _ ?_⟩⟩
    · unfold fcI; rw [z]; rfl
    · unfold fcI; rw [if_pos (by simpa using z)]
  obtain ⟨I', h1, h2⟩ := rW_ex key
  exact ⟨I', e_X9_peepOf h1, h2⟩
end PEP
