/-! ===== the model's expression: its end ===== -/
/-- after an expression: a fault on record, or the reader stands behind it with all its steps out -/
def ExP (I' : Nat → Nat → Int32) (m : Nat) (f : Nat → Int32) (n base : Nat) (q0 : Ps) : Prop := FltM I' m f n ∨ ∃ k, k ≤ stopK f n ∧ I' m 13 = 0 ∧ I' m 11 = nI k ∧ I' m 12 = 0 ∧ qw (qA f n k) = 2 ∧ qd (qA f n k) = 0 ∧ qs (qA f n k) = qs q0 ∧ (qA f n k).2.2 = q0.2.2 ∧ (tokA f n k).1 < 15 ∧ I' m 32 = nI (base + (fl (qA f n k)).length) ∧ SegM I' m base (fl (qA f n k))
section MEX3
variable {γ : rG} {l : Launch} {sh : Nat × (Nat → Nat) × (Nat → Nat)} {I : Nat → Nat → Int32} {J : Nat → Nat → Int64} {R : Nat → Nat → Option Nat} {m n k base lim : Nat} {f : Nat → Int32} {q0 : Ps}
theorem dw_all {L : List Nat} (h : ∀ x ∈ L, isB x = true) : L.dropWhile isB = [] ∧ L.takeWhile isB = L := by
  induction L with
  | nil => exact ⟨rfl, rfl⟩
  | cons y r ih =>
    have hy := h y (by simp)
    obtain ⟨i1, i2⟩ := ih (fun x hx => h x (by simp [hx]))
    constructor
    · simp only [List.dropWhile, hy]; exact i1
    · simp only [List.takeWhile, hy]; rw [i2]
/-- no operator follows -/
theorem ex_end {I1 : Nat → Nat → Int32} (hA : At9 sh R m) (hT : TkT I1 m f n) (hk : k ≤ stopK f n) (hV : V_ps (qA f n k) k) (hw : qw (qA f n k) = 2) (e1 : qs (qA f n k) = qs q0) (e2 : (qA f n k).2.2 = q0.2.2) (hM : MxS I1 m base (qo (qA f n k)) (qx (qA f n k))) (h12 : I1 m 12 = nI (qd (qA f n k))) (h13 : I1 m 13 = 0) (h11 : I1 m 11 = nI k) (hb : base + (qx (qA f n k)).length + (qo (qA f n k)).length ≤ lim ∧ lim ≤ 1000) (hs : (tokA f n k).1 < 15) (h7 : (tokA f n k).1 = 7 → qd (qA f n k) = 0) (hS : Sm (Fex m base lim) I I1) : s_X9_expression_281 γ l m 0 0 (sh, I1, J, R) (fun hf v => ∃ I', hf = (sh, I', J, R) ∧ v = none ∧ (ExP I' m f n base q0 ∧ Sm (Fex m base lim) I I')) := by
  have hln := hV.ln
  have o1 := hV.2.1.1
  have hd6 := hV.2.1.2.1
  have hcs := okO_cases o1
  refine w_X9_expression_281 hA ⟨fun _ => ⟨fun z => ?_, fun z => ?_⟩, fun z => absurd rfl z⟩
  · have hd : qd (qA f n k) = 0 := by
      rw [h12, show (0 : Int32) = nI 0 from rfl, nI_leI (by omega) (by decide)] at z
      omega
    obtain ⟨I2, d1, d2, d3⟩ := ct_comesOut (γ := γ) (l := l) (J := J) (lim := lim) false hA _ _ hcs hM (by omega) hb
    rw [hd] at o1
    obtain ⟨i1, i2⟩ := dw_all (okO_0 o1)
    have i1' : (qo (qA f n k)).dropWhile (fun x => if false = true then isT x else isB x) = [] := i1
    have i2' : (qo (qA f n k)).takeWhile (fun x => if false = true then isT x else isB x) = qo (qA f n k) := i2
    rw [i1', i2'] at d2
    refine ⟨I2, d1, I2, rfl, rfl, Or.inr ⟨k, hk, ?_, ?_, ?_, hw, hd, e1, e2, hs, d2.2.2.1, d2.2.2.2⟩, hS.tr (d3.mono (fun b j y => Fcm_Fex y))⟩
    · exact (d3 _ _ (by unfold Fcm; omega)).trans h13
    · exact (d3 _ _ (by unfold Fcm; omega)).trans h11
    · rw [d3 _ _ (by unfold Fcm; omega), h12, hd]; rfl
  · have hd : 0 < qd (qA f n k) := by
      rw [h12, show (0 : Int32) = nI 0 from rfl, nI_leI (by omega) (by decide)] at z
      omega
    have hg : goB (qA f n k) (tokA f n k).1 = false := by
      unfold goB
      rw [if_neg (by omega), if_neg (by omega), if_neg (by omega), if_pos hd]
      exact decide_eq_false (fun y => by have := h7 y; omega)
    obtain ⟨g1, g2⟩ := stop_no hk (by omega) (Or.inr hg)
    obtain ⟨I3, f1, f2, f3⟩ := ct_failK (γ := γ) (l := l) (J := J) hA hT h13 h11 g1 g2 (by decide)
    have hM3 : MxS I3 m base (qo (qA f n k)) (qx (qA f n k)) := ⟨(f3 _ _ (by omega)).trans hM.1, hM.2.1.loc _ (fun j _ => f3 _ _ (by omega)), (f3 _ _ (by omega)).trans hM.2.2.1, hM.2.2.2.loc _ _ (fun b j y _ _ => f3 _ _ (by omega))⟩
    obtain ⟨I2, d1, d2, d3⟩ := ct_comesOut (γ := γ) (l := l) (J := J) (lim := lim) false hA _ _ hcs hM3 (by omega) hb
    exact ⟨I3, f1, I2, d1, I2, rfl, rfl, Or.inl (f2.fr (fun j hj => d3 _ _ (by unfold Fcm; omega))), (hS.tr (f3.mono (fun b j y => by unfold Fex; omega))).tr (d3.mono (fun b j y => Fcm_Fex y))⟩
end MEX3
