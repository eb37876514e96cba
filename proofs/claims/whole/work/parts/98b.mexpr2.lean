/-! ===== the model's expression ===== -/
section MEX2
variable {γ : rG} {l : Launch} {sh : Nat × (Nat → Nat) × (Nat → Nat)} {I : Nat → Nat → Int32} {J : Nat → Nat → Int64} {R : Nat → Nat → Option Nat} {m n k base lim : Nat} {f : Nat → Int32}
theorem Fcm_Fex {b j : Nat} (h : Fcm m base lim b j) : Fex m base lim b j := by unfold Fcm at h; unfold Fex; omega
/-- with a fault on record the expression runs out, and changes nothing that counts -/
theorem ex_flt {I1 : Nat → Nat → Int32} {W : List Nat} {S : List Itm} (hA : At9 sh R m) (hF : FltM I1 m f n) (hW : ∀ x ∈ W, x = 8 ∨ x = 15 ∨ x = 16 ∨ x = 17) (hM : MxS I1 m base W S) (hl : W.length ≤ 48) (hb : base + S.length + W.length ≤ lim ∧ lim ≤ 1000) (hS : Sm (Fex m base lim) I I1) (x1 : Int32) : s_X9_expression_200 γ l m x1 (sh, I1, J, R) (fun hf v => ∃ I', hf = (sh, I', J, R) ∧ v = none ∧ (FltM I' m f n ∧ Sm (Fex m base lim) I I')) := by
  obtain ⟨ne0, nle⟩ := hF.ne
  obtain ⟨I2, d1, d2, d3⟩ := ct_comesOut (γ := γ) (l := l) (J := J) (lim := lim) false hA W S hW hM hl hb
  have fin : ∃ I', ((sh, I2, J, R) : rHeap) = (sh, I', J, R) ∧ (none : Option Value) = none ∧ (FltM I' m f n ∧ Sm (Fex m base lim) I I') := ⟨I2, rfl, rfl, hF.fr (fun j hj => d3 _ _ (by unfold Fcm; omega)), hS.tr (d3.mono (fun b j z => Fcm_Fex z))⟩
  refine w_X9_expression_200 hA ⟨0, ct_isF hA ne0 _, fun _ => ?_, fun z => absurd rfl z⟩
  refine w_X9_expression_249 hA ⟨0, ct_isF hA ne0 _, fun _ => ⟨0, ct_isF hA ne0 _, fun _ => ⟨0, ct_isF hA ne0 _, fun _ => ?_, fun z => absurd rfl z⟩, fun z => absurd rfl z⟩, fun z => absurd rfl z⟩
  exact w_X9_expression_281 hA ⟨fun _ => ⟨fun _ => ⟨I2, d1, fin⟩, fun _ => ⟨I1, ct_failF hA nle _, I2, d1, fin⟩⟩, fun z => absurd rfl z⟩
end MEX2
