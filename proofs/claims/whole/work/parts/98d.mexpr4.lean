/-! ===== the model's expression: the loop ===== -/
def ExI (I I1 : Nat → Nat → Int32) (m : Nat) (f : Nat → Int32) (n base lim : Nat) (q0 : Ps) (w k : Nat) : Prop := qw (qA f n k) = w ∧ (qs (qA f n k) = qs q0 ∧ (qA f n k).2.2 = q0.2.2) ∧ MxS I1 m base (qo (qA f n k)) (qx (qA f n k)) ∧ (I1 m 12 = nI (qd (qA f n k)) ∧ I1 m 13 = 0 ∧ I1 m 11 = nI k) ∧ Sm (Fex m base lim) I I1
section MEX4
variable {γ : rG} {l : Launch} {sh : Nat × (Nat → Nat) × (Nat → Nat)} {I : Nat → Nat → Int32} {J : Nat → Nat → Int64} {R : Nat → Nat → Option Nat} {m n k base lim : Nat} {f : Nat → Int32} {q0 : Ps}
theorem ExI.b {I1 : Nat → Nat → Int32} {w : Nat} (h : ExI I I1 m f n base lim q0 w k) (hk : k ≤ stopK f n) (hb : base + 401 ≤ lim + (preC (qs q0) q0.2.2).length ∧ lim ≤ 1000) : base + (qx (qA f n k)).length + (qo (qA f n k)).length < lim ∧ lim ≤ 1000 := by
  have hV := qA_V k hk
  have hc := hV.2.2.2.2
  have hK := (stop_at (f := f) (n := n)).1
  rw [clsC_eq, Wq_eq, h.2.1.1, h.2.1.2] at hc
  simp only [List.length_append] at hc
  omega
theorem ExI.t {I1 : Nat → Nat → Int32} {w : Nat} (h : ExI I I1 m f n base lim q0 w k) (hT : TkT I m f n) : TkT I1 m f n := hT.fr (fun b j z => h.2.2.2.2 _ _ (by unfold Fex; omega))
theorem MxS.fr {I1 I2 : Nat → Nat → Int32} {W : List Nat} {S : List Itm} (h : MxS I1 m base W S) (hq : ∀ b j, (b = m ∧ (j = 36 ∨ j = 32)) ∨ b = m + 20 ∨ b = m + 21 ∨ b = m + 22 → I2 b j = I1 b j) : MxS I2 m base W S :=
  ⟨(hq _ _ (by omega)).trans h.1, h.2.1.loc _ (fun j _ => hq _ _ (by omega)), (hq _ _ (by omega)).trans h.2.2.1, h.2.2.2.loc _ _ (fun b j y _ _ => hq _ _ (by omega))⟩
/-- one more waits -/
theorem MxS.push {I1 : Nat → Nat → Int32} {W : List Nat} {S : List Itm} {s : Nat} (h : MxS I1 m base W S) (hl : W.length < 48) : MxS (up (up I1 (m + 22) W.length (nI (kOf s 0))) m 36 (nI (W.length + 1))) m base (s :: W) S := by
  refine ⟨by rw [up_at, if_pos ⟨rfl, rfl⟩]; rfl, ⟨?_, h.2.1.loc _ (fun j hj => ?_)⟩, ?_, h.2.2.2.loc _ _ (fun b j y _ _ => ?_)⟩
  · rw [List.length_map, up_at, if_neg (by omega), up_at, if_pos ⟨rfl, rfl⟩]
  · rw [List.length_map] at hj
    rw [up_at, if_neg (by omega), up_at, if_neg (by omega)]
  · rw [up_at, if_neg (by omega), up_at, if_neg (by omega)]; exact h.2.2.1
  · rw [up_at, if_neg (by omega), up_at, if_neg (by omega)]
end MEX4
