/-! ===== the relation holds behind both constructors ===== -/
theorem i_tape : I9c 1 1 = nI 0 ∧ I9c 169 2 = nI 0 ∧ I9c 0 7 = -1 ∧ I9c 169 17 = -1 := by decide +kernel
theorem i_keys : ∀ k, k < 14 → J9c 176 k = lN (keyN k) := by decide +kernel
theorem i_way : (I9c 142 0 = nI 0 ∧ I9c 142 1 = nI 0 ∧ I9c 142 2 = nI 0) ∧ (I9c 169 69 = nI 0 ∧ I9c 169 71 = nI 0 ∧ I9c 169 73 = nI 0) ∧ I9c 142 3 = 0 := by decide +kernel
theorem i_prc : (R9c 0 5 = some 153 ∧ R9c 0 6 = some 161) ∧ I9c 153 0 = nI 0 ∧ I9c 169 18 = nI 0 ∧ I9c 177 0 = nI 0 := by decide +kernel
theorem i_a3 : At3 SH R9c 153 ∧ At3 SH R9c 161 := ⟨ck3_of (by decide +kernel), ck3_of (by decide +kernel)⟩
theorem i_fnd : I9c 116 0 = nI 4 ∧ (∀ j, j < 7 → 1 ≤ j → I9c 116 j = 0) ∧ I9c 116 7 = 0 ∧ I9c 117 0 = 0 ∧ I9c 169 59 = 0 ∧ (∀ i, i < 8 → I9c 207 i = -1 ∧ I9c 208 i = -1) ∧ ∀ i, i < 16 → I9c 209 i = -1 := by decide +kernel
theorem i_msh : (I9c 169 39 = nI 4 ∧ I9c 169 48 = nI 0) ∧ (∀ i, i < 8 → I9c 198 i = nI 0 ∧ I9c 199 i = nI 0 ∧ I9c 200 i = 0) ∧ (∀ f, f < 16 → I9c 201 f = nz false) ∧ I9c 194 0 = nI 4 ∧ ∀ q, q < 4 → I9c 195 q = nI q ∧ I9c 196 q = nI 0 ∧ I9c 197 q = nz true := by decide +kernel
theorem I9c_lo {b j : Nat} (h : b < 116) : I9c b j = shFlat (up I00 0 7 (-1)) 5 4 b j := by
  have e1 : I9c b j = I8c b j := by
    unfold I9c mForgets
    rw [up_at, if_neg (by omega)]
    have f2 : ∀ k, mFg2 (mFg1 (mFlat (up (up I8c 169 17 (-1)) 169 39 4) 169 0 4) 169 8) 169 k b j = mFg1 (mFlat (up (up I8c 169 17 (-1)) 169 39 4) 169 0 4) 169 8 b j := by
      intro k
      induction k with
      | zero => rfl
      | succ k ih => simp only [mFg2]; rw [up_at, if_neg (by omega)]; exact ih
    have f1 : ∀ k, mFg1 (mFlat (up (up I8c 169 17 (-1)) 169 39 4) 169 0 4) 169 k b j = mFlat (up (up I8c 169 17 (-1)) 169 39 4) 169 0 4 b j := by
      intro k
      induction k with
      | zero => rfl
      | succ k ih => simp only [mFg1]; rw [up_at, if_neg (by omega), up_at, if_neg (by omega)]; exact ih
    rw [f2, f1]
    unfold mFlat
    rw [mFl_off (by omega), up_at, if_neg (by omega), up_at, if_neg (by omega), up_at, if_neg (by omega)]
  rw [e1]
  unfold I8c fdForget
  simp only [up_at]
  repeat rw [if_neg (by omega)]
theorem i_csh : C_sheet I9c 5 (newT 4) := (C_new (I := up I00 0 7 (-1)) (a := 5) (N := 4) (by decide)).loc (by decide) (fun b j q _ => I9c_lo (by unfold Fc at q; omega))
theorem WhS_0 : WhS 0 I9c J9c R9c := by
  obtain ⟨t1, t2, t3, t4⟩ := i_tape
  obtain ⟨w1, w2, w3⟩ := i_way
  obtain ⟨⟨p1, p2⟩, p3, p4, p5⟩ := i_prc
  obtain ⟨f1, f2, f3, f4, f5, f6, f7⟩ := i_fnd
  obtain ⟨s1, s2, s3, s4, s5⟩ := i_msh
  have hX : PrX I9c 169 0 0 0 [] := ⟨by decide, p5, fun r hr => absurd hr (by simp)⟩
  refine ⟨⟨at8_9, at9_9⟩, ⟨⟨0, fun _ => 0, by omega, ⟨t1, fun j hj => absurd hj (by omega)⟩, ⟨t2, fun j hj => absurd hj (by omega)⟩, fun j hj => absurd hj (by omega)⟩, by rw [t3, t4], i_keys⟩, newT 4, 153, 161, 0, [], noF, 0, 0, 0, fun _ => 0, fun _ => 0, fun _ => 0, ⟨new_V (by decide), i_csh, s1, ?_, ?_, ?_, ?_⟩, ⟨⟨⟨by decide, fun r hr => absurd hr (by simp)⟩, ⟨p1, i_a3.1, Or.inl rfl⟩, ⟨p3, fun _ => 0, fun r hr => absurd hr (by simp)⟩, p4, hX.M⟩, ⟨p2, i_a3.2, Or.inr rfl, by decide⟩, 0, 0, hX⟩, ⟨fun i => (show (0 : Nat) < 4 by decide), noF_C f1 (fun j h1 h2 => f2 j h2 h1), ⟨fun i hi => ?_, fun i hi => ?_, fun i hi => ?_⟩, fun N n1 n2 hz => ?_, Or.inl ⟨f3, f5⟩⟩, ⟨by omega, by omega, by omega, w1, w2, fun j hj => absurd hj (by omega), fun j hj => absurd hj (by omega)⟩, Or.inl w3⟩
  · intro i hi
    obtain ⟨a1, a2, a3⟩ := s2 i hi
    refine ⟨?_, a2, a3⟩
    show I9c 198 i = nI (0 / 2 ^ (2 * i) % 4)
    rw [Nat.zero_div]
    exact a1
  · intro f hf
    show I9c 201 f = nz ((0 : Nat).testBit f)
    rw [Nat.zero_testBit]
    exact s3 f hf
  · intro i hi
    have e : i = 0 := Nat.le_zero.mp hi
    subst e
    refine ⟨s1.1, s4, fun q hq => ?_⟩
    have hq : q < 4 := hq
    obtain ⟨a1, a2, a3⟩ := s5 q hq
    exact ⟨by rw [show 8 * 0 + q = q by omega]; exact a1, by rw [show 8 * 0 + q = q by omega]; exact a2, by rw [show 8 * 0 + q = q by omega]; exact a3⟩
  · intro i hi
    exact absurd (show i < 0 from hi) (by omega)
  · exact (f6 i (by have : yN (newT 4) = 4 := rfl; omega)).1
  · exact (f6 i (by have : yN (newT 4) = 4 := rfl; omega)).2
  · exact f7 i (by have : yN (newT 4) = 4 := rfl; omega)
  · rw [f4] at hz
    exact absurd ((nI_eq (a := 0) (by decide) (by omega)).mp hz) (by omega)
