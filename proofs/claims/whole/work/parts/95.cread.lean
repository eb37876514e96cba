/-! ===== the class reads a text ===== -/
theorem tkS_le {f : Nat → Int32} {n i : Nat} (h : i ≤ n) : i ≤ tkS f n i ∧ tkS f n i ≤ n := by
  have := seek_le (fun j => !blB (f j)) (n - i) i
  unfold tkS
  omega
theorem tkA_le {f : Nat → Int32} {n st : Nat} (h : st ≤ n) : (tkA f n st).2.2 ≤ n := by
  unfold tkA
  by_cases h1 : st < n
  · rw [if_pos h1]
    split
    · have := seek_le (fun j => !ltB (f j)) (n - st) st
      show eL f n st ≤ n
      unfold eL; omega
    · split
      · have := seek_le (fun j => !dgB (f j)) (n - st) st
        split
        · show eD f n st ≤ n
          unfold eD; omega
        · show eD f n st ≤ n
          unfold eD; omega
      · show st + sgL (sgS (f st) (eqN f n st)) ≤ n
        by_cases he : eqN f n st = true
        · have : st + 1 < n := by unfold eqN at he; simp at he; exact he.1
          unfold sgL; split <;> omega
        · have he' : eqN f n st = false := by simpa using he
          rw [he', (kdA_ok (f st) false).2]
          show st + 1 ≤ n
          omega
  · rw [if_neg h1]; exact h
theorem wT_ok (w : Nat) : TkOk (wT w).1 (wT w).2 := by
  unfold wT TkOk
  repeat' split
  all_goals simp
  all_goals omega
theorem tkA_ok {f : Nat → Int32} {n st : Nat} : TkOk (tkA f n st).1 (tkA f n st).2.1 := by
  unfold tkA
  by_cases h1 : st < n
  · rw [if_pos h1]
    by_cases h2 : ltB (f st) = true
    · rw [if_pos h2]; exact wT_ok _
    · rw [if_neg h2]
      by_cases h3 : dgB (f st) = true
      · rw [if_pos h3]
        by_cases h4 : eD f n st - st ≤ 4
        · rw [if_pos h4]
          refine ⟨by show 2 ≤ 17; decide, fun _ => ?_, fun z => absurd (show 2 = 3 from z) (by decide), fun z => absurd (show 2 = 4 from z) (by decide)⟩
          have hl : ∀ j, j < eD f n st - st → dgB (f (st + j)) = true := by
            intro j hj
            have := seek_no (fun j => !dgB (f j)) (n - st) st (st + j) (by omega) (by unfold eD at hj; omega)
            simpa using this
          have := dN_lt (f := f) (st := st) (eD f n st - st) hl
          exact Nat.lt_of_lt_of_le this (Nat.pow_le_pow_right (n := 10) (by decide) h4)
        · rw [if_neg h4]
          exact ⟨by show 1 ≤ 17; decide, fun z => absurd (show 1 = 2 from z) (by decide), fun z => absurd (show 1 = 3 from z) (by decide), fun z => absurd (show 1 = 4 from z) (by decide)⟩
      · rw [if_neg h3]
        have hs : ∀ c b, sgS c b ≤ 17 ∧ sgS c b ≠ 4 := by
          intro c b
          unfold sgS
          repeat' split
          all_goals decide
        exact ⟨(hs _ _).1, fun _ => by show 0 < 10000; decide, fun _ => by show 0 < 5; decide, fun _ => by show 0 < 6; decide⟩
  · rw [if_neg h1]
    exact ⟨by show 0 ≤ 17; decide, fun z => absurd (show 0 = 2 from z) (by decide), fun z => absurd (show 0 = 3 from z) (by decide), fun z => absurd (show 0 = 4 from z) (by decide)⟩
theorem psA_le {f : Nat → Int32} {n : Nat} : ∀ j, psA f n j ≤ n := by
  intro j
  induction j with
  | zero => exact Nat.zero_le _
  | succ j ih => exact tkA_le (tkS_le ih).2
theorem stA_le {f : Nat → Int32} {n j : Nat} : stA f n j ≤ n := (tkS_le (psA_le j)).2
/-! the reader after k tokens; where it stops; what it answers -/
def qA (f : Nat → Int32) (n : Nat) : Nat → Ps
  | 0 => p0
  | k + 1 => stpP (qA f n k) (tokA f n k).1 (tokA f n k).2.1
def stopB (f : Nat → Int32) (n k : Nat) : Bool := decide ((tokA f n k).1 = 0) || decide (fauA (qA f n k) (tokA f n k).1 k ≠ 0)
def stopK (f : Nat → Int32) (n : Nat) : Nat := seek (stopB f n) 400 0
def ansA (f : Nat → Int32) (n : Nat) : Nat := if (tokA f n (stopK f n)).1 = 0 then (if qw (qA f n (stopK f n)) = 0 then 0 else 1) else fauA (qA f n (stopK f n)) (tokA f n (stopK f n)).1 (stopK f n)
theorem qA_V {f : Nat → Int32} {n : Nat} : ∀ k, k ≤ stopK f n → V_ps (qA f n k) k := by
  intro k
  induction k with
  | zero => intro _; exact V_p0
  | succ k ih =>
    intro h
    have hn := seek_no (stopB f n) 400 0 k (by omega) (by unfold stopK at h; omega)
    unfold stopB at hn
    rw [Bool.or_eq_false_iff] at hn
    have hf : fauA (qA f n k) (tokA f n k).1 k = 0 := by
      have := of_decide_eq_false hn.2
      omega
    exact V_step (ih (by omega)) hf tkA_ok
theorem stop_at {f : Nat → Int32} {n : Nat} : stopK f n ≤ 400 ∧ stopB f n (stopK f n) = true := by
  have h := (seek_le (stopB f n) 400 0).2
  rcases Nat.lt_or_ge (stopK f n) 400 with q | q
  · exact ⟨by omega, seek_yes (stopB f n) 400 0 (by unfold stopK at q; omega)⟩
  · have e : stopK f n = 400 := by unfold stopK at q ⊢; omega
    refine ⟨by omega, ?_⟩
    rw [e]
    unfold stopB
    rw [Bool.or_eq_true]
    refine Or.inr (decide_eq_true ?_)
    unfold fauA
    split
    · decide
    · rw [if_pos (Or.inl (Nat.le_refl _))]; decide
section CRD
variable {γ : rG} {l : Launch} {sh : Nat × (Nat → Nat) × (Nat → Nat)} {I : Nat → Nat → Int32} {J : Nat → Nat → Int64} {R : Nat → Nat → Option Nat} {a p t n : Nat} {f : Nat → Int32}
theorem RC.fr {q : Ps} {I' : Nat → Nat → Int32} (h : RC q I a p) (hq : ∀ b j, (b = a ∧ 1 ≤ j ∧ j ≤ 4) ∨ b = a + 1 ∨ (p ≤ b ∧ b ≤ p + 5) → I' b j = I b j) : RC q I' a p :=
  ⟨h.1.fr (fun b j z => hq _ _ (by omega)), ⟨(hq _ _ (by omega)).trans h.2.1.1, fun z => (hq _ _ (by omega)).trans (h.2.1.2.1 z), (hq _ _ (by omega)).trans h.2.1.2.2⟩, (hq _ _ (by omega)).trans h.2.2.1, h.2.2.2.1.fr (fun b j z1 z2 _ => hq _ _ (by omega)), fun z => (h.2.2.2.2 z).fr (fun b j z1 z2 => hq _ _ (by omega))⟩
def Frt (a p t : Nat) : Nat → Nat → Prop := fun b j => Frd a p b j ∨ Fk t b j
theorem read_loop (hA : At4 sh R a) (hT : At6 sh R t) (hR : R a 5 = some p) (hP : At3 sh R p) (hap : a + 1 < p) (hta : t + 1 < a) (hX : TxC I t n f) : ∀ (d k : Nat) (I1 : Nat → Nat → Int32), k + d = stopK f n → RC (qA f n k) I1 a p → I1 t 2 = nI (psA f n k) → Sm (Frt a p t) I I1 → s_X4_readText_34 γ l a t (nI k) (sh, I1, J, R) (fun hf v => ∃ I', hf = (sh, I', J, R) ∧ v = some (.int (nI (ansA f n))) ∧ (I' t 3 = nI (stA f n (stopK f n)) ∧ RC (qA f n (stopK f n)) I' a p ∧ Sm (Frt a p t) I I')) := by
  obtain ⟨hK, hst⟩ := stop_at (f := f) (n := n)
  have hn := hX.1
  intro d
  induction d with
  | zero =>
    intro k I1 hk hC h2 hS
    have ek : k = stopK f n := by omega
    have hX1 : TxC I1 t n f := ⟨hX.1, (hS _ _ (by unfold Frt Frd Fk; omega)).trans hX.2.1, fun j hj => (hS _ _ (by unfold Frt Frd Fk; omega)).trans (hX.2.2 j hj)⟩
    obtain ⟨I3, d1, d2, d3⟩ := ct_scan (γ := γ) (l := l) (J := J) hT hX1 (psA_le k) h2
    have hC3 : RC (qA f n k) I3 a p := hC.fr (fun b j z => d3 _ _ (by unfold Fk; omega))
    have hS3 : Sm (Frt a p t) I I3 := hS.tr (d3.mono (fun b j z => Or.inr z))
    have e3 : I3 t 3 = nI (stA f n (stopK f n)) := by rw [← ek]; exact d2.2.1
    have e4 : I3 t 4 = nI (tokA f n k).1 := d2.2.2.1
    have hok : TkOk (tokA f n k).1 (tokA f n k).2.1 := tkA_ok
    have h17 := hok.1
    refine w_X4_readText_34 hA hT ⟨fun z => absurd z (nI_nlt (show k ≤ 400 by omega) (by decide)), fun _ => ⟨I3, d1, fun z => ?_, fun z => ?_⟩⟩
    · have h0 : (tokA f n k).1 = 0 := by rw [e4] at z; exact (nI_eq (b := 0) (by omega) (by decide)).mp z
      have hw2 := (qA_V (f := f) (n := n) k (by omega)).1.1
      have ew : I3 a 2 = nI (qw (qA f n k)) := hC3.2.1.1
      refine ⟨fun y => ⟨I3, rfl, ?_, e3, by rw [← ek]; exact hC3, hS3⟩, fun y => ⟨I3, rfl, ?_, e3, by rw [← ek]; exact hC3, hS3⟩⟩
      · have hw : qw (qA f n k) = 0 := by rw [ew] at y; exact (nI_eq (b := 0) (by omega) (by decide)).mp y
        unfold ansA
        rw [← ek, if_pos h0, if_pos hw]
        rfl
      · have hw : qw (qA f n k) ≠ 0 := fun hw => y (by rw [ew, hw]; rfl)
        unfold ansA
        rw [← ek, if_pos h0, if_neg hw]
        rfl
    · have h0 : (tokA f n k).1 ≠ 0 := fun h0 => z (by rw [e4, h0]; rfl)
      have hfne : fauA (qA f n k) (tokA f n k).1 k ≠ 0 := by
        rw [← ek] at hst
        unfold stopB at hst
        rw [Bool.or_eq_true] at hst
        rcases hst with y | y
        · exact absurd (of_decide_eq_true y) h0
        · exact of_decide_eq_true y
      have hf2 : fauA (qA f n k) (tokA f n k).1 k ≤ 2 := by unfold fauA; repeat' split
                                                            all_goals decide
      rw [e4]
      refine ⟨_, ct_faultOf hA hR hP (qA_V k (by omega)) hC3 h17 (by omega), fun y => absurd y (nI_ne0 (by omega) (by omega)), fun _ => ⟨I3, rfl, ?_, e3, by rw [← ek]; exact hC3, hS3⟩⟩
      unfold ansA
      rw [← ek, if_neg h0]
  | succ d ih =>
    intro k I1 hk hC h2 hS
    have hX1 : TxC I1 t n f := ⟨hX.1, (hS _ _ (by unfold Frt Frd Fk; omega)).trans hX.2.1, fun j hj => (hS _ _ (by unfold Frt Frd Fk; omega)).trans (hX.2.2 j hj)⟩
    obtain ⟨I3, d1, d2, d3⟩ := ct_scan (γ := γ) (l := l) (J := J) hT hX1 (psA_le k) h2
    have hC3 : RC (qA f n k) I3 a p := hC.fr (fun b j z => d3 _ _ (by unfold Fk; omega))
    have hS3 : Sm (Frt a p t) I I3 := hS.tr (d3.mono (fun b j z => Or.inr z))
    have e4 : I3 t 4 = nI (tokA f n k).1 := d2.2.2.1
    have hok : TkOk (tokA f n k).1 (tokA f n k).2.1 := tkA_ok
    have h17 := hok.1
    have hns := seek_no (stopB f n) 400 0 k (by omega) (by unfold stopK at hk; omega)
    unfold stopB at hns
    rw [Bool.or_eq_false_iff] at hns
    have h0 : (tokA f n k).1 ≠ 0 := of_decide_eq_false hns.1
    have hf : fauA (qA f n k) (tokA f n k).1 k = 0 := by
      have := of_decide_eq_false hns.2
      omega
    refine w_X4_readText_34 hA hT ⟨fun z => absurd z (nI_nlt (show k ≤ 400 by omega) (by decide)), fun _ => ⟨I3, d1, fun z => ?_, fun _ => ?_⟩⟩
    · rw [e4] at z
      exact absurd ((nI_eq (b := 0) (by omega) (by decide)).mp z) h0
    · rw [e4]
      have hg := (fau0 hf).1
      have hVk := qA_V k (show k ≤ stopK f n by omega)
      refine ⟨_, ct_faultOf hA hR hP hVk hC3 h17 (by omega), fun _ => ?_, fun y => absurd (by rw [hf]; rfl) y⟩
      have hv : I3 t 5 = nI (tokA f n k).2.1 := by
        rcases d2.2.2.2 with y | y
        · exfalso
          have y : (tokA f n k).1 = 1 := y
          rw [y] at hg
          rcases go_cases hVk.1.1 hg with z | z | z <;> omega
        · exact y
      obtain ⟨I9, g1, g2, g3⟩ := ct_take (γ := γ) (l := l) (J := J) hA hR hP hap hVk hC3 hf hok hv
      refine ⟨I9, g1, ?_⟩
      rw [nI_1]
      refine ih (k + 1) I9 (by omega) g2 ?_ (hS3.tr (g3.mono (fun b j z => Or.inl z)))
      rw [g3 _ _ (by unfold Frd; omega)]
      exact d2.1
theorem At4_up {x : Option Nat} (h : At4 sh R a) : At4 sh (up R a 5 x) a := by
  refine ⟨h.1, ?_⟩
  obtain ⟨h1, h2⟩ := h.2
  exact ⟨by rw [up_at, if_neg (by omega)]; exact h1, h2⟩
end CRD
