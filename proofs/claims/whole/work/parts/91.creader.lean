/-! ===== the class's reader ===== -/
def rkA (s : Nat) : Nat := [0, 1, 2, 3, 3, 3, 3, 4, 4, 5].getD (s - 8) 0
def RcS (I : Nat → Nat → Int32) (a p : Nat) (W : List Nat) (S : List Itm) : Prop := I a 1 = nI W.length ∧ StkJ I (a + 1) (W.map nI) ∧ I p 1 = nI S.length ∧ SegJ I (p + 5) 0 S
def Frl (a p : Nat) : Nat → Nat → Prop := fun b j => (b = a ∧ j = 1) ∨ b = a + 1 ∨ (b = p ∧ j = 1) ∨ b = p + 5
theorem SegJ_snoc {I : Nat → Nat → Int32} {c : Nat} {t : Itm} : ∀ (L : List Itm) (f : Nat), SegJ I c f L → I c (f + L.length) = encJ t → SegJ I c f (L ++ [t]) := by
  intro L
  induction L with
  | nil => intro f _ h; exact ⟨h, trivial⟩
  | cons x L ih =>
    intro f h1 h2
    refine ⟨h1.1, ih (f + 1) h1.2 ?_⟩
    rw [← h2]
    congr 1
    simp only [List.length_cons]
    omega
theorem enc_itm : ∀ s : Fin 18, 9 ≤ s.val → -(nI s.val) = encJ (itm s.val) := by decide +kernel
section CREAD
variable {γ : rG} {l : Launch} {sh : Nat × (Nat → Nat) × (Nat → Nat)} {I : Nat → Nat → Int32} {J : Nat → Nat → Int64} {R : Nat → Nat → Option Nat} {a p : Nat}
theorem ct_rank {s : Nat} (h8 : 8 ≤ s) (h17 : s ≤ 17) : rMet γ l m_X4_rank [.int (nI s)] (sh, I, J, R) (sh, I, J, R) (some (.int (nI (rkA s)))) := by
  have e : nI s - 8 = nI (s - 8) := by
    have := nI_sub' 8 (s - 8)
    rw [show 8 + (s - 8) = s by omega] at this
    exact this
  refine e_X4_rank (rW_pure (w_X4_rank_0 ?_))
  rw [e]
  refine ⟨fun z => absurd z (nI_pos (by omega)), fun _ => ⟨fun z => absurd z (nI_ge (show s - 8 < 10 by omega) (by decide)), fun _ => ⟨vp_in_nI (by omega) (by decide), rfl, ?_⟩⟩⟩
  rw [nI_clamp (by omega)]
  have : ∀ i : Fin 10, rRANKS i.val = nI ([0, 1, 2, 3, 3, 3, 3, 4, 4, 5].getD i.val 0) := by decide +kernel
  rw [this ⟨s - 8, by omega⟩]
  rfl
theorem ct_emitC {S : List Itm} {t : Itm} {x : Int32} (hP : At3 sh R p) (h1 : I p 1 = nI S.length) (hS : SegJ I (p + 5) 0 S) (hl : S.length < 400) (hx : x = encJ t) : ∃ I', rMet γ l m_X3_emit [.ref p, .int x] (sh, I, J, R) (sh, I', J, R) none ∧ (I' p 1 = nI (S ++ [t]).length ∧ SegJ I' (p + 5) 0 (S ++ [t]) ∧ Sm (fun b j => (b = p ∧ j = 1) ∨ b = p + 5) I I') := by
  have e1 : up I (p + 5) S.length x p 1 = nI S.length := by rw [up_at, if_neg (by omega)]; exact h1
  obtain ⟨I', q1, q2⟩ := rW_ex (γ := γ) (l := l) (sh := sh) (J := J) (R := R) (r := none) (F := fun I' => I' p 1 = nI (S ++ [t]).length ∧ SegJ I' (p + 5) 0 (S ++ [t]) ∧ Sm (fun b j => (b = p ∧ j = 1) ∨ b = p + 5) I I') (w_X3_emit_0 (I := I) (J := J) (x1 := x) hP (by
    rw [h1, nI_clamp (by omega), e1, nI_1]
    refine ⟨fun z => absurd z (nI_ge hl (by decide)), fun _ => ⟨vp_in_nI hl (by decide), _, rfl, rfl, ?_, ?_, (Sm.rf.up (Or.inr rfl)).up (Or.inl ⟨rfl, rfl⟩)⟩⟩
    · rw [up_at, if_pos ⟨rfl, rfl⟩]; simp
    · refine SegJ_snoc S 0 (hS.loc S 0 (fun j _ hj => ?_)) ?_
      · rw [up_at, if_neg (by omega), up_at, if_neg (by omega)]
      · rw [up_at, if_neg (by omega), up_at, if_pos ⟨rfl, by omega⟩]; exact hx))
  exact ⟨I', e_X3_emit q1, q2⟩
theorem ct_release {B : List Nat} {least : Nat} (hA : At4 sh R a) (hR : R a 5 = some p) (hP : At3 sh R p) (hap : a + 1 < p) (hle : least ≤ 5) (hB : ∀ s, B.head? = some s → 8 ≤ s ∧ s ≤ 17 ∧ rkA s < least) (A : List Nat) (S : List Itm) (hS : RcS I a p (A ++ B) S) (hl : (A ++ B).length ≤ 32) (hsz : S.length + A.length ≤ 400) (hAr : ∀ s ∈ A, 9 ≤ s ∧ s ≤ 17 ∧ least ≤ rkA s) : ∃ I', rMet γ l m_X4_release [.ref a, .int (nI least)] (sh, I, J, R) (sh, I', J, R) none ∧ (RcS I' a p B (S ++ A.map itm) ∧ Sm (Frl a p) I I') := by
  have key : ∀ (A : List Nat) (S0 : List Itm) (I1 : Nat → Nat → Int32), RcS I1 a p (A ++ B) S0 → (A ++ B).length ≤ 32 → S0.length + A.length ≤ 400 → (∀ s ∈ A, 9 ≤ s ∧ s ≤ 17 ∧ least ≤ rkA s) → Sm (Frl a p) I I1 → s_X4_release_0 γ l a (nI least) (sh, I1, J, R) (fun hf v => ∃ I', hf = (sh, I', J, R) ∧ v = none ∧ (RcS I' a p B (S0 ++ A.map itm) ∧ Sm (Frl a p) I I')) := by
    intro A
    induction A with
    | nil =>
      intro S0 I1 h1 h2 h3 h4 h5
      refine w_X4_release_0 hA ⟨p, hR, hP, fun _ => ⟨I1, rfl, rfl, by simpa using h1, h5⟩, fun z => ?_⟩
      cases B with
      | nil => exact absurd (by rw [h1.1]; exact nI_le (by simp) (by decide)) z
      | cons y t =>
        obtain ⟨b1, b2, b3⟩ := hB y rfl
        have e1 : I1 a 1 = nI (t.length + 1) := h1.1
        have hlt : t.length + 1 ≤ 32 := h2
        have et : I1 (a + 1) t.length = nI y := by
          have := h1.2.1.1
          simpa using this
        rw [e1, nI_pred, nI_clamp (by omega), et]
        refine ⟨vp_in_nI (by omega) (by decide), _, ct_rank b1 b2, fun _ => ⟨I1, rfl, rfl, by simpa using h1, h5⟩, fun z => absurd (nI_lt b3 (by omega)) z⟩
    | cons s A ih =>
      intro S0 I1 h1 h2 h3 h4 h5
      obtain ⟨a1, a2, a3⟩ := h4 s (by simp)
      have e1 : I1 a 1 = nI ((A ++ B).length + 1) := h1.1
      have hlt : (A ++ B).length + 1 ≤ 32 := h2
      have et : I1 (a + 1) (A ++ B).length = nI s := by
        have := h1.2.1.1
        simpa using this
      have ew : up I1 a 1 (nI (A ++ B).length) a 1 = nI (A ++ B).length := by rw [up_at, if_pos ⟨rfl, rfl⟩]
      have ew2 : up I1 a 1 (nI (A ++ B).length) (a + 1) (A ++ B).length = nI s := by rw [up_at, if_neg (by omega)]; exact et
      refine w_X4_release_0 hA ⟨p, hR, hP, fun z => absurd z (by rw [e1]; exact nI_nle (by omega) (by omega)), fun _ => ?_⟩
      rw [e1, nI_pred, nI_clamp (by omega), et, ew, nI_clamp (by omega), ew2]
      have hrk : rkA s ≤ 5 := by
        have : ∀ s : Fin 18, rkA s.val ≤ 5 := by decide +kernel
        exact this ⟨s, by omega⟩
      refine ⟨vp_in_nI (by omega) (by decide), _, ct_rank (by omega) a2, fun z => absurd z (nI_nlt a3 (by omega)), fun _ => ⟨vp_in_nI (by omega) (by decide), ?_⟩⟩
      have hen := enc_itm ⟨s, by omega⟩ a1
      obtain ⟨I2, d1, d2, d3, d4⟩ := ct_emitC (γ := γ) (l := l) (J := J) (I := up I1 a 1 (nI (A ++ B).length)) (S := S0) (t := itm s) (x := -(nI s)) hP (by rw [up_at, if_neg (by omega)]; exact h1.2.2.1) (h1.2.2.2.loc S0 0 (fun j _ _ => by rw [up_at, if_neg (by omega)])) (by simp at h3; omega) hen
      refine ⟨I2, d1, ?_⟩
      have hSt : StkJ I1 (a + 1) ((A ++ B).map nI) := h1.2.1.2
      have := ih (S0 ++ [itm s]) I2 ⟨(d4 _ _ (by omega)).trans ew, hSt.loc _ (fun j hj => (d4 _ _ (by omega)).trans (by rw [up_at, if_neg (by omega)])), d2, d3⟩ (by omega) (by simp at h3 ⊢; omega) (fun x hx => h4 x (by simp [hx])) ((h5.up (Or.inl ⟨rfl, rfl⟩)).tr (d4.mono (fun b j q => by unfold Frl; omega)))
      rw [show S0 ++ (s :: A).map itm = S0 ++ [itm s] ++ A.map itm by simp]
      exact this
  obtain ⟨I', q1, q2⟩ := rW_ex (key A S I hS hl hsz hAr Sm.rf)
  exact ⟨I', e_X4_release q1, q2⟩
theorem ct_await {W : List Nat} {S : List Itm} {s : Nat} (hA : At4 sh R a) (hap : a + 1 < p) (hS : RcS I a p W S) (hl : W.length < 32) : ∃ I', rMet γ l m_X4_await [.ref a, .int (nI s)] (sh, I, J, R) (sh, I', J, R) none ∧ (RcS I' a p (s :: W) S ∧ Sm (Frl a p) I I') := by
  have e1 : up I (a + 1) W.length (nI s) a 1 = nI W.length := by rw [up_at, if_neg (by omega)]; exact hS.1
  obtain ⟨I', q1, q2⟩ := rW_ex (γ := γ) (l := l) (sh := sh) (J := J) (R := R) (r := none) (F := fun I' => RcS I' a p (s :: W) S ∧ Sm (Frl a p) I I') (w_X4_await_0 (I := I) (J := J) (x1 := nI s) hA (by
    rw [hS.1, nI_clamp (by omega), e1, nI_1]
    refine ⟨fun z => absurd z (nI_ge hl (by decide)), fun _ => ⟨vp_in_nI hl (by decide), _, rfl, rfl, ⟨?_, ⟨?_, ?_⟩, ?_, ?_⟩, (Sm.rf.up (Or.inr (Or.inl rfl))).up (Or.inl ⟨rfl, rfl⟩)⟩⟩
    · rw [up_at, if_pos ⟨rfl, rfl⟩]; rfl
    · rw [List.length_map, up_at, if_neg (by omega), up_at, if_pos ⟨rfl, rfl⟩]
    · refine hS.2.1.loc _ (fun j hj => ?_)
      rw [List.length_map] at hj
      rw [up_at, if_neg (by omega), up_at, if_neg (by omega)]
    · rw [up_at, if_neg (by omega), up_at, if_neg (by omega)]; exact hS.2.2.1
    · refine hS.2.2.2.loc S 0 (fun j _ _ => ?_)
      rw [up_at, if_neg (by omega), up_at, if_neg (by omega)]))
  exact ⟨I', e_X4_await q1, q2⟩
theorem ct_goesOnR {q : Ps} {s : Nat} (hA : At4 sh R a) (hw : qw q ≤ 2) (hsd : qs q ≤ 2) (hdp : qd q ≤ 6) (h2 : I a 2 = nI (qw q)) (h3 : qw q ≠ 0 → I a 3 = nI (qs q)) (h4 : I a 4 = nI (qd q)) (hs : s ≤ 17) : rMet γ l m_X4_goesOn [.ref a, .int (nI s)] (sh, I, J, R) (sh, I, J, R) (some (.int (nz (goB q s)))) := by
  have ev : ∀ c : Nat, c < 2 ^ 31 → ((nI s = nI c) ↔ s = c) := fun c hc => nI_eq (by omega) hc
  have e2 : ∀ c : Nat, c < 2 ^ 31 → ((I a 2 = nI c) ↔ qw q = c) := fun c hc => by rw [h2]; exact nI_eq (by omega) hc
  refine e_X4_goesOn (rW_pure (w_X4_goesOn_0 hA ?_))
  have f0 : (I a 2 = 0) ↔ qw q = 0 := e2 0 (by decide)
  have f1 : (I a 2 = 1) ↔ qw q = 1 := e2 1 (by decide)
  have g (c : Nat) (hc : c < 2 ^ 31) := ev c hc
  have v4 : (nI s = 4) ↔ s = 4 := ev 4 (by decide)
  have v2 : (nI s = 2) ↔ s = 2 := ev 2 (by decide)
  have v3 : (nI s = 3) ↔ s = 3 := ev 3 (by decide)
  have v8 : (nI s = 8) ↔ s = 8 := ev 8 (by decide)
  have v7 : (nI s = 7) ↔ s = 7 := ev 7 (by decide)
  have v10 : (nI s = 10) ↔ s = 10 := ev 10 (by decide)
  have v9 : (nI s = 9) ↔ s = 9 := ev 9 (by decide)
  have v6 : (nI s = 6) ↔ s = 6 := ev 6 (by decide)
  have v5 : (nI s = 5) ↔ s = 5 := ev 5 (by decide)
  have v15 : (nI s < 15) ↔ s < 15 := nI_ltI (a := s) (b := 15) (by omega) (by decide)
  have v11 : (nI s < 11) ↔ s < 11 := nI_ltI (a := s) (b := 11) (by omega) (by decide)
  have v14 : ((14 : Int32) < nI s) ↔ 14 < s := nI_ltI (a := 14) (b := s) (by decide) (by omega)
  have d0 : (I a 4 ≤ 0) ↔ qd q ≤ 0 := by rw [h4]; exact nI_leI (a := qd q) (b := 0) (by omega) (by decide)
  rw [f0, f1, v4, v2, v3, v8, v7, v10, v9, v6, v5, v15, v11, v14, d0]
  by_cases w0 : qw q = 0
  · have eg : goB q s = decide (s = 4) := by unfold goB; rw [if_pos w0]
    rw [eg]
    exact ⟨fun _ => ⟨fun z => ⟨rfl, by rw [decide_eq_true z]; rfl⟩, fun z => ⟨rfl, by rw [decide_eq_false z]; rfl⟩⟩, fun z => absurd w0 z⟩
  refine ⟨fun z => absurd z w0, fun _ => ?_⟩
  by_cases w1 : qw q = 1
  · have eg : goB q s = decide (s = 2 ∨ s = 3 ∨ s = 8) := by unfold goB; rw [if_neg w0, if_pos w1]
    rw [eg]
    exact ⟨fun _ => ⟨fun z => ⟨rfl, by rw [decide_eq_true (by omega)]; rfl⟩, fun z1 => ⟨fun z => ⟨rfl, by rw [decide_eq_true (by omega)]; rfl⟩, fun z2 => ⟨fun z => ⟨rfl, by rw [decide_eq_true (by omega)]; rfl⟩, fun z3 => ⟨rfl, by rw [decide_eq_false (by omega)]; rfl⟩⟩⟩⟩, fun z => absurd w1 z⟩
  refine ⟨fun z => absurd z w1, fun _ => ?_⟩
  have g1 : (I a 3 = 1) ↔ qs q = 1 := by rw [h3 w0]; exact nI_eq (b := 1) (by omega) (by decide)
  have g2 : (I a 3 = 2) ↔ qs q = 2 := by rw [h3 w0]; exact nI_eq (b := 2) (by omega) (by decide)
  rw [g1, g2]
  have eg : goB q s = if 15 ≤ s then true else if 0 < qd q then decide (s = 7) else if qs q = 1 then decide (11 ≤ s ∧ s ≤ 14) else if qs q = 2 then decide (s = 10 ∨ s = 9 ∨ s = 6) else decide (s = 5 ∨ s = 6) := by
    show (if qw q = 0 then _ else if qw q = 1 then _ else _) = _
    rw [if_neg w0, if_neg w1]
  rw [eg]
  refine ⟨fun z => ?_, fun z => ⟨rfl, by rw [if_pos (by omega)]; rfl⟩⟩
  rw [if_neg (by omega)]
  refine ⟨fun d => ?_, fun d => ?_⟩
  · rw [if_neg (by omega)]
    refine ⟨fun s1 => ?_, fun s1 => ⟨fun s2 => ?_, fun s2 => ?_⟩⟩
    · rw [if_pos s1]
      exact ⟨fun z => ⟨rfl, by rw [decide_eq_false (by omega)]; rfl⟩, fun z => ⟨fun y => ⟨rfl, by rw [decide_eq_false (by omega)]; rfl⟩, fun y => ⟨rfl, by rw [decide_eq_true (by omega)]; rfl⟩⟩⟩
    · rw [if_neg s1, if_pos s2]
      exact ⟨fun z => ⟨rfl, by rw [decide_eq_true (by omega)]; rfl⟩, fun z1 => ⟨fun z => ⟨rfl, by rw [decide_eq_true (by omega)]; rfl⟩, fun z2 => ⟨fun z => ⟨rfl, by rw [decide_eq_true (by omega)]; rfl⟩, fun z3 => ⟨rfl, by rw [decide_eq_false (by omega)]; rfl⟩⟩⟩⟩
    · rw [if_neg s1, if_neg s2]
      exact ⟨fun z => ⟨rfl, by rw [decide_eq_true (by omega)]; rfl⟩, fun z1 => ⟨fun z => ⟨rfl, by rw [decide_eq_true (by omega)]; rfl⟩, fun z3 => ⟨rfl, by rw [decide_eq_false (by omega)]; rfl⟩⟩⟩
  · rw [if_pos (by omega)]
    exact ⟨fun z => ⟨rfl, by rw [decide_eq_true z]; rfl⟩, fun z => ⟨rfl, by rw [decide_eq_false z]; rfl⟩⟩
end CREAD
