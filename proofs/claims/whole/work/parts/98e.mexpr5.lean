/-! ===== the model's expression: behind a unit ===== -/
theorem rW_mono {γ : rG} {l : Launch} {M : rM} {k n pc : Nat} {L : List (Option Value)} {st : List Value} {h : rHeap} {Q Q' : rHeap → Option Value → Prop} (t : rW γ l M k n pc L st h Q) (hq : ∀ hf r, Q hf r → Q' hf r) : rW γ l M k n pc L st h Q' := by
  obtain ⟨hf, r, h1, h2⟩ := t
  exact ⟨hf, r, h1, hq hf r h2⟩
section MEX5
variable {γ : rG} {l : Launch} {sh : Nat × (Nat → Nat) × (Nat → Nat)} {I : Nat → Nat → Int32} {J : Nat → Nat → Int64} {R : Nat → Nat → Option Nat} {m n k base lim : Nat} {f : Nat → Int32} {q0 : Ps}
abbrev ExQ (sh : Nat × (Nat → Nat) × (Nat → Nat)) (I : Nat → Nat → Int32) (J : Nat → Nat → Int64) (R : Nat → Nat → Option Nat) (m : Nat) (f : Nat → Int32) (n base lim : Nat) (q0 : Ps) : rHeap → Option Value → Prop := fun hf v => ∃ I', hf = (sh, I', J, R) ∧ v = none ∧ (ExP I' m f n base q0 ∧ Sm (Fex m base lim) I I')
theorem ex_flt2 {I1 : Nat → Nat → Int32} {W : List Nat} {S : List Itm} (hA : At9 sh R m) (hF : FltM I1 m f n) (hW : ∀ x ∈ W, x = 8 ∨ x = 15 ∨ x = 16 ∨ x = 17) (hM : MxS I1 m base W S) (hl : W.length ≤ 48) (hb : base + S.length + W.length ≤ lim ∧ lim ≤ 1000) (hS : Sm (Fex m base lim) I I1) (x1 : Int32) : s_X9_expression_200 γ l m x1 (sh, I1, J, R) (ExQ sh I J R m f n base lim q0) :=
  rW_mono (ex_flt hA hF hW hM hl hb hS x1) (fun _ _ ⟨I', h1, h2, h3, h4⟩ => ⟨I', h1, h2, Or.inl h3, h4⟩)
/-- the loop's head with a fault on record -/
theorem ex_flt12 {I1 : Nat → Nat → Int32} (hA : At9 sh R m) (hF : FltM I1 m f n) (hS : Sm (Fex m base lim) I I1) (x1 x2 : Int32) : s_X9_expression_12 γ l m x1 x2 (sh, I1, J, R) (ExQ sh I J R m f n base lim q0) :=
  w_X9_expression_12 hA ⟨fun _ => ⟨I1, rfl, rfl, Or.inl hF, hS⟩, fun _ => ⟨fun z => absurd z hF.ne.1, fun _ => ⟨I1, rfl, rfl, Or.inl hF, hS⟩⟩⟩
end MEX5
