/-! ===== the class reads a text: the rules that it holds then ===== -/
theorem SegJ_app {I : Nat → Nat → Int32} {c : Nat} {M : List Itm} : ∀ (L : List Itm) (f : Nat), SegJ I c f (L ++ M) → SegJ I c f L ∧ SegJ I c (f + L.length) M := by
  intro L
  induction L with
  | nil => intro f h; exact ⟨trivial, h⟩
  | cons x L ih =>
    intro f h
    obtain ⟨h1, h2⟩ := ih (f + 1) h.2
    refine ⟨⟨h.1, h1⟩, ?_⟩
    rw [show f + (x :: L).length = f + 1 + L.length by simp only [List.length_cons]; omega]
    exact h2
theorem codes_app (L M : List Rul) : codes (L ++ M) = codes L ++ codes M := by
  induction L with
  | nil => rfl
  | cons u t ih => simp [codes, ih]
theorem codes_at {dn : List Rul} {r : Nat} (hr : r < dn.length) : codes dn = codes (dn.take r) ++ (((gR dn r).2.1 ++ cndT (gR dn r).2.2) ++ codes (dn.drop (r + 1))) := by
  have e : dn = dn.take r ++ (gR dn r :: dn.drop (r + 1)) := by
    have h1 : gR dn r = dn[r] := by unfold gR; simp [List.getD_eq_getElem?_getD, List.getElem?_eq_getElem hr]
    rw [h1, List.getElem_cons_drop, List.take_append_drop]
  have := congrArg codes e
  rw [codes_app] at this
  exact this
theorem RC_PrC {q : Ps} {I : Nat → Nat → Int32} {a p k : Nat} (hV : V_ps q k) (hk : k ≤ 400) (h : RC q I a p) (hw : qw q = 0) : PrC I p (qn q) ∧ V_prc (qn q) := by
  refine ⟨⟨h.2.2.1, fun r => offs (qn q) r, fun r hr => ?_⟩, hV.2.2.2.1⟩
  obtain ⟨t1, t2, t3, t4⟩ := h.2.2.2.1 r hr
  have hcl : clsC q = codes (qn q) := by
    obtain ⟨dn, hq⟩ : ∃ dn, q = ((0, 0, 0), ([], []), dn, (0, [], []), (true, 0, [])) := ⟨_, hV.1.2.2.1 hw⟩
    rw [hq]
    simp [clsC_eq, preC]
  have hS := h.1.2.2.2
  have hcnt := hV.2.2.2.2
  rw [hcl] at hS hcnt
  rw [codes_at hr] at hS
  have hlen := congrArg List.length (codes_at hr)
  simp only [List.length_append] at hlen
  obtain ⟨_, s2⟩ := SegJ_app _ _ hS
  obtain ⟨s3, _⟩ := SegJ_app _ _ s2
  obtain ⟨s4, s5⟩ := SegJ_app _ _ s3
  rw [Nat.zero_add] at s4 s5
  refine ⟨by show (codes ((qn q).take r)).length + _ + _ ≤ 400; omega, t1, t2, t3, t4, s4, s5⟩
theorem ans_0 {f : Nat → Int32} {n : Nat} (h : ansA f n = 0) : qw (qA f n (stopK f n)) = 0 := by
  have hst := (stop_at (f := f) (n := n)).2
  unfold ansA at h
  by_cases h0 : (tokA f n (stopK f n)).1 = 0
  · rw [if_pos h0] at h
    by_cases hw : qw (qA f n (stopK f n)) = 0
    · exact hw
    · rw [if_neg hw] at h; exact absurd h (by decide)
  · rw [if_neg h0] at h
    unfold stopB at hst
    rw [Bool.or_eq_true] at hst
    rcases hst with y | y
    · exact absurd (of_decide_eq_true y) h0
    · exact absurd h (of_decide_eq_true y)
section CRD2
variable {γ : rG} {l : Launch} {sh : Nat × (Nat → Nat) × (Nat → Nat)} {I : Nat → Nat → Int32} {J : Nat → Nat → Int64} {R : Nat → Nat → Option Nat} {a p t n : Nat} {f : Nat → Int32}
theorem At6_up {x : Option Nat} (h : At6 sh R t) (ht : t ≠ a) : At6 sh (up R a 5 x) t := by
  refine ⟨h.1, ?_⟩
  obtain ⟨h1, h2⟩ := h.2
  exact ⟨by rw [up_at, if_neg (fun z => ht z.1)]; exact h1, h2⟩
theorem rA_up {x : Option Nat} {c g o kd len k : Nat} (h : rA sh R p g o kd len) (hp : p ≠ c ∨ g ≠ k) : rA sh (up R c k x) p g o kd len := by
  obtain ⟨h1, h2⟩ := h
  exact ⟨by rw [up_at, if_neg (by omega)]; exact h1, h2⟩
theorem At3_up {x : Option Nat} {c k : Nat} (h : At3 sh R p) (hp : p ≠ c) : At3 sh (up R c k x) p :=
  ⟨h.1, rA_up h.2.1 (Or.inl hp), rA_up h.2.2.1 (Or.inl hp), rA_up h.2.2.2.1 (Or.inl hp), rA_up h.2.2.2.2.1 (Or.inl hp), rA_up h.2.2.2.2.2.1 (Or.inl hp), rA_up h.2.2.2.2.2.2.1 (Or.inl hp), rA_up h.2.2.2.2.2.2.2 (Or.inl hp)⟩
theorem ct_readText (hA : At4 sh R a) (hT : At6 sh R t) (hP : At3 sh R p) (hap : a + 1 < p) (hta : t + 1 < a) (hX : TxC I t n f) : ∃ I', rMet γ l m_X4_readText [.ref a, .ref t, .ref p] (sh, I, J, R) (sh, I', J, up R a 5 (some p)) (some (.int (nI (ansA f n)))) ∧ (I' t 3 = nI (stA f n (stopK f n)) ∧ (ansA f n = 0 → PrC I' p (qn (qA f n (stopK f n))) ∧ V_prc (qn (qA f n (stopK f n)))) ∧ Sm (Frt a p t) I I') := by
  have hA' := At4_up (x := some p) hA
  have hT' := At6_up (x := some p) hT (show t ≠ a by omega)
  have hP' := At3_up (x := some p) (k := 5) hP (show p ≠ a by omega)
  have hR' : up R a 5 (some p) a 5 = some p := by rw [up_at, if_pos ⟨rfl, rfl⟩]
  have hclear : rMet γ l m_X3_clear [.ref p] (sh, I, J, up R a 5 (some p)) (sh, up (up I p 0 0) p 1 0, J, up R a 5 (some p)) none := e_X3_clear (rW_pure (w_X3_clear_0 hP' ⟨rfl, rfl⟩))
  have hS0 : Sm (Frt a p t) I (up (up (up (up (up (up I p 0 0) p 1 0) a 1 0) a 2 0) a 4 0) t 2 0) := (((((Sm.rf.up (by unfold Frt Frd; omega)).up (by unfold Frt Frd; omega)).up (by unfold Frt Frd; omega)).up (by unfold Frt Frd; omega)).up (by unfold Frt Frd; omega)).up (Or.inr ⟨rfl, by decide, by decide⟩)
  have hC0 : RC (qA f n 0) (up (up (up (up (up (up I p 0 0) p 1 0) a 1 0) a 2 0) a 4 0) t 2 0) a p := by
    refine ⟨⟨?_, trivial, ?_, trivial⟩, ⟨?_, fun z => absurd rfl z, ?_⟩, ?_, fun r hr => absurd (show r < 0 from hr) (by omega), fun z => absurd rfl z⟩
    · rw [up_at, if_neg (by omega), up_at, if_neg (by omega), up_at, if_neg (by omega), up_at, if_pos ⟨rfl, rfl⟩]; rfl
    · rw [up_at, if_neg (by omega), up_at, if_neg (by omega), up_at, if_neg (by omega), up_at, if_neg (by omega), up_at, if_pos ⟨rfl, rfl⟩]; rfl
    · rw [up_at, if_neg (by omega), up_at, if_neg (by omega), up_at, if_pos ⟨rfl, rfl⟩]; rfl
    · rw [up_at, if_neg (by omega), up_at, if_pos ⟨rfl, rfl⟩]; rfl
    · rw [up_at, if_neg (by omega), up_at, if_neg (by omega), up_at, if_neg (by omega), up_at, if_neg (by omega), up_at, if_neg (by omega), up_at, if_pos ⟨rfl, rfl⟩]; rfl
  obtain ⟨I', q1, q2, q3, q4⟩ := rW_ex (γ := γ) (l := l) (w_X4_readText_0 hA hT hP (w_X4_readText_5 hA' hT' ⟨p, hR', hP', _, hclear, read_loop (J := J) hA' hT' hR' hP' hap hta hX (stopK f n) 0 _ (by omega) hC0 (by rw [up_at, if_pos ⟨rfl, rfl⟩]; rfl) hS0⟩))
  exact ⟨I', e_X4_readText q1, q2, fun h0 => RC_PrC (qA_V _ (Nat.le_refl _)) stop_at.1 q3 (ans_0 h0), q4⟩
end CRD2
