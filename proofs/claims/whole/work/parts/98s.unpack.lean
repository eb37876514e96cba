/-! ===== longs; packed and unpack of the class ===== -/
theorem lq_c : ∀ k, k < 64 → ((nI k).toInt64 &&& 63) = lN k := by decide +kernel
theorem lq_sm : ∀ k, k < 64 → ((lN k).toBitVec.smod 64).toNat = k := by decide +kernel
theorem lq_sm2 : ∀ k, k < 64 → (lN k).toBitVec.smod 64 = BitVec.ofNat 64 k := by decide +kernel
theorem lq_int {a : Nat} (h : a < 2 ^ 63) : (lN a).toInt = (a : Int) := pk_lT h
theorem lq_shr {a k : Nat} (h : a < 2 ^ 63) (hk : k < 64) : lN a >>> ((nI k).toInt64 &&& 63) = lN (a / 2 ^ k) := by
  rw [lq_c k hk]
  have hd : a / 2 ^ k ≤ a := Nat.div_le_self _ _
  apply Int64.toInt_inj.mp
  have e : (lN a >>> lN k).toInt = (lN a).toInt >>> k := by
    have := lq_sm k hk
    show ((lN a).toBitVec.sshiftRight ((lN k).toBitVec.smod 64).toNat).toInt = _
    rw [this, BitVec.toInt_sshiftRight]
    rfl
  rw [e, Int.shiftRight_eq_div_pow, lq_int h, lq_int (by omega)]
  rfl
theorem lq_shl {a k : Nat} (hk : k < 64) (ha : a < 2 ^ 64) : lN a <<< ((nI k).toInt64 &&& 63) = lN (a * 2 ^ k) := by
  rw [lq_c k hk]
  apply Int64.toBitVec_inj.mp
  rw [Int64.toBitVec_shiftLeft, lq_sm2 k hk]
  apply BitVec.eq_of_toNat_eq
  have hb : (lN a).toBitVec.toNat = a := Nat.mod_eq_of_lt ha
  have hk' : (BitVec.ofNat 64 k).toNat = k := Nat.mod_eq_of_lt (by omega)
  have h : ((lN a).toBitVec <<< BitVec.ofNat 64 k).toNat = (a * 2 ^ k) % 2 ^ 64 := by simp only [BitVec.shiftLeft_eq', BitVec.toNat_shiftLeft, hb, hk', Nat.shiftLeft_eq]
  exact h
theorem lq_or (a b : Nat) : lN a ||| lN b = lN (a ||| b) := by
  apply Int64.toBitVec_inj.1
  show BitVec.ofNat 64 a ||| BitVec.ofNat 64 b = BitVec.ofNat 64 (a ||| b)
  apply BitVec.eq_of_getLsbD_eq
  intro i hi
  simp [hi]
theorem lq_and (a b : Nat) : lN a &&& lN b = lN (a &&& b) := by
  apply Int64.toBitVec_inj.1
  show BitVec.ofNat 64 a &&& BitVec.ofNat 64 b = BitVec.ofNat 64 (a &&& b)
  apply BitVec.eq_of_getLsbD_eq
  intro i hi
  simp [hi]
theorem lq_mask (n k : Nat) : lN n &&& lN (2 ^ k - 1) = lN (n % 2 ^ k) := by rw [lq_and, Nat.and_two_pow_sub_one_eq_mod]
theorem lq_1 (n : Nat) : lN n &&& 1 = lN (n % 2) := lq_mask n 1
theorem lq_orS {a k : Nat} (b : Nat) (h : a < 2 ^ k) : lN (b * 2 ^ k) ||| lN a = lN (b * 2 ^ k + a) := by rw [lq_or, Nat.mul_comm, Nat.two_pow_add_eq_or_of_lt h]
theorem i63 (n : Nat) : nI n &&& 63 = nI (n % 64) := by
  rw [pk_and (nI n) (m := 63) 6 (by decide)]
  have : (nI n).toBitVec.toNat = n % 2 ^ 32 := rfl
  rw [this, show n % 2 ^ 32 % 2 ^ 6 = n % 64 by omega]
theorem pow64 (j : Nat) : 2 ^ (6 * j) = 64 ^ j := by rw [Nat.pow_mul]
/-- one part more in the number -/
theorem pk_dig {K c q : Nat} (hK : K < 2 ^ 57) (hc : c < 8) (hq : q < 8) : ((lN K <<< ((6 : Int32).toInt64 &&& 63)) ||| (nI c <<< ((3 : Int32) &&& 31)).toInt64) ||| (nI q).toInt64 = lN (K * 64 + (8 * c + q)) := by
  rw [show (6 : Int32) = nI 6 from rfl, show (3 : Int32) = nI 3 from rfl, lq_shl (by omega) (by omega), bt_shl (by omega) (by omega), nI_l (by omega), nI_l (by omega)]
  rw [lq_orS (k := 6) K (by omega), show K * 2 ^ 6 + c * 2 ^ 3 = (K * 8 + c) * 2 ^ 3 by omega, lq_orS (k := 3) _ (by omega), show (K * 8 + c) * 2 ^ 3 + q = K * 64 + (8 * c + q) by omega]
theorem pow57 {N : Nat} (h : N ≤ 8) : 2 * 64 ^ N ≤ 2 ^ 49 := by
  have : 64 ^ N ≤ 64 ^ 8 := Nat.pow_le_pow_right (by omega) h
  omega
section UNP
variable {γ : rG} {l : Launch} {sh : Nat × (Nat → Nat) × (Nat → Nat)} {I : Nat → Nat → Int32} {J : Nat → Nat → Int64} {R : Nat → Nat → Option Nat} {a N K : Nat} {P : Pk}
theorem pcN_57 (hP : PkV P) {k : Nat} (hk : k ≤ pN P) : pcN P k < 2 ^ 49 := by
  have h1 := pcN_lt k (fun p hp => (hP.d p (by omega)).2.2)
  have h2 := pow57 (N := k) (by have := hP.2.1; omega)
  omega
theorem ct_packed (hA : At2 sh R a) (hP : PkV P) (hC : PkC I a P) : rMet γ l m_X2_packed [.ref a] (sh, I, J, R) (sh, I, J, R) (some (.long (lN (pcN P (pN P))))) := by
  have h8 := hP.2.1
  have h2 := hP.1
  have loop : ∀ j k, k + j = pN P → s_X2_packed_17 γ l a (lN (pcN P k)) (nI k) (sh, I, J, R) (fun hf r => hf = (sh, I, J, R) ∧ r = some (.long (lN (pcN P (pN P))))) := by
    intro j
    induction j with
    | zero =>
      intro k hk
      refine w_X2_packed_17 hA ⟨fun _ => ⟨rfl, by rw [show k = pN P by omega]⟩, fun z => absurd ?_ z⟩
      rw [hC.1]
      exact nI_le (by omega) (by omega)
    | succ j ih =>
      intro k hk
      refine w_X2_packed_17 hA ⟨fun z => absurd z (by rw [hC.1]; exact nI_ge (by omega) (by omega)), fun _ => ?_⟩
      obtain ⟨c1, c2, c3⟩ := hC.2.2.1 k (by omega)
      obtain ⟨d1, d2, d3⟩ := hP.d k (by omega)
      have hK := pcN_57 hP (k := k) (by omega)
      rw [nI_clamp (by omega), c1, c2, pk_dig (by omega) d1 d2, nI_1]
      exact ⟨vp_in_nI (by omega) (by decide), vp_in_nI (by omega) (by decide), ih (k + 1) (by omega)⟩
  refine e_X2_packed (rW_pure (w_X2_packed_0 hA ⟨vp_in_nI (show 0 < 8 by decide) (by decide), ?_⟩))
  have e0 : (0 : Int32).toNatClampNeg = 0 := by decide
  rw [e0, (hC.2.2.1 0 (by omega)).2.2, nz_0]
  refine ⟨fun z => ?_, fun z => ?_⟩
  · have := loop (pN P) 0 (by omega)
    have e : lN (pcN P 0) = 0 := by simp only [pcN]; rw [z]; rfl
    rw [e] at this
    exact this
  · have z : pU P 0 = true := by revert z; cases pU P 0 <;> simp
    have := loop (pN P) 0 (by omega)
    have e : lN (pcN P 0) = 1 := by simp only [pcN]; rw [z]; rfl
    rw [e] at this
    exact this
theorem up_comm {f : Nat → Nat → Int32} {b j c k : Nat} {v w : Int32} (h : b ≠ c) : up (up f b j v) c k w = up (up f c k w) b j v := by
  funext x y
  simp only [up_at]
  by_cases h1 : x = c ∧ y = k
  · rw [if_pos h1, if_neg (by omega), if_pos h1]
  · rw [if_neg h1]
    by_cases h2 : x = b ∧ y = j
    · rw [if_pos h2, if_pos h2]
    · rw [if_neg h2, if_neg h2, if_neg h1]
theorem up_same {f : Nat → Nat → Int32} {b j : Nat} {v w : Int32} : up (up f b j v) b j w = up f b j w := by
  funext x y
  simp only [up_at]
  by_cases h1 : x = b ∧ y = j
  · rw [if_pos h1, if_pos h1]
  · rw [if_neg h1, if_neg h1, if_neg h1]
theorem pkLay_up1 {p c q : Nat} {u : Bool} {v : Int32} : pkLay (up I a 1 v) a p c q u = up (pkLay I a p c q u) a 1 v := by
  unfold pkLay
  have e : up I a 1 v (a + 4) c = I (a + 4) c := by rw [up_at, if_neg (by omega)]
  rw [e, up_comm (b := a) (c := a + 1) (by omega), up_comm (b := a) (c := a + 2) (by omega), up_comm (b := a) (c := a + 3) (by omega), up_comm (b := a) (c := a + 4) (by omega), up_comm (b := a) (c := a + 5) (by omega)]
theorem layAll_up1 {c q : Nat → Nat} {u : Nat → Bool} {v : Int32} : ∀ k, layAll (up I a 1 v) a c q u k = up (layAll I a c q u k) a 1 v := by
  intro k
  induction k with
  | zero => rfl
  | succ k ih => simp only [layAll]; rw [ih, pkLay_up1]
theorem pkBegin_up1 {n w v : Int32} : up (pkBegin I a n w) a 1 v = pkBegin I a n v := by
  funext x y
  unfold pkBegin fillN
  simp only [up_at]
  by_cases h1 : x = a ∧ y = 1
  · rw [if_pos h1, if_neg (by omega), if_pos h1]
  · rw [if_neg h1]
    by_cases h2 : x = a + 4 ∧ y < 8
    · rw [if_pos h2, if_pos h2]
    · rw [if_neg h2, if_neg h2, if_neg h1, if_neg h1]
theorem ct_unpack (hA : At2 sh R a) (hK : K < 2 * 64 ^ N) (hP : PkV (unP N K)) : ∃ I', rMet γ l m_X2_unpack [.ref a, .long (lN K), .int (nI N)] (sh, I, J, R) (sh, I', J, R) none ∧ PkC I' a (unP N K) ∧ Sm (fun b _ => a ≤ b ∧ b < a + 6) I I' := by
  have h8 : N ≤ 8 := hP.2.1
  have h2 : 2 ≤ N := hP.1
  have hK9 := pow57 h8
  have dg : ∀ k, k < N → ((lN K >>> (((6 : Int32) * ((nI N - 1) - nI k)).toInt64 &&& 63)).toInt32 &&& 63) = nI (K / 64 ^ (N - 1 - k) % 64) := by
    intro k hk
    rw [show (1 : Int32) = nI 1 from rfl, pk_sub (by omega), pk_sub (by omega), show (6 : Int32) = nI 6 from rfl, pk_mul, lq_shr (by omega) (by omega), lN_i, i63, pow64]
  have dc : ∀ k, nI (K / 64 ^ (N - 1 - k) % 64) >>> ((3 : Int32) &&& 31) = nI (unC N K k) := by
    intro k
    rw [show (3 : Int32) = nI 3 from rfl, bt_shr (by omega) (by omega)]
    rfl
  have dl : ∀ k, nI (K / 64 ^ (N - 1 - k) % 64) &&& 7 = nI (unL N K k) := by
    intro k
    rw [pk_andN (by omega) 3 (by decide)]
    rfl
  have c8 : ∀ k, unC N K k < 8 ∧ unL N K k < 8 := by
    intro k
    unfold unC unL
    omega
  have w8 : ∀ k, unW N K k ≤ 8 := by
    intro k
    induction k with
    | zero => simp [unW]
    | succ k ih =>
      simp only [unW]
      have := (c8 k).1
      split <;> omega
  have lp : ∀ j k x5, k + j = N → (k = 0 → x5 = -1) → (∀ i, k = i + 1 → x5 = nI (unC N K i)) → ∀ u0, (k = 0 → u0 = unU N K 0) → (∀ i, k = i + 1 → u0 = unU N K i) → s_X2_unpack_32 γ l a (lN K) (nI N) (nz u0) x5 (nI k) (sh, up (layAll (pkBegin I a (nI N) 0) a (unC N K) (unL N K) (unU N K) k) a 1 (nI (unW N K k)), J, R) (fun hf r => hf = (sh, up (layAll (pkBegin I a (nI N) 0) a (unC N K) (unL N K) (unU N K) N) a 1 (nI (unW N K N)), J, R) ∧ r = none) := by
    intro j
    induction j with
    | zero =>
      intro k x5 hk _ _ u0 _ _
      have ek : k = N := by omega
      subst ek
      exact w_X2_unpack_32 hA ⟨fun _ => ⟨rfl, rfl⟩, fun z => absurd (nI_le (Nat.le_refl _) (by omega)) z⟩
    | succ j ih =>
      intro k x5 hk h5 h5' u0 hu hu'
      have hkN : k < N := by omega
      obtain ⟨b1, b2⟩ := c8 k
      have bw := w8 k
      -- the part is laid, as the text lies
      have at80 : s_X2_unpack_80 γ l a (lN K) (nI N) (nz (unU N K k)) (nI k) (nI (K / 64 ^ (N - 1 - k) % 64)) (nI (unC N K k)) (sh, up (layAll (pkBegin I a (nI N) 0) a (unC N K) (unL N K) (unU N K) k) a 1 (nI (unW N K k)), J, R) (fun hf r => hf = (sh, up (layAll (pkBegin I a (nI N) 0) a (unC N K) (unL N K) (unU N K) N) a 1 (nI (unW N K N)), J, R) ∧ r = none) := by
        refine w_X2_unpack_80 hA ?_
        have ea : up (layAll (pkBegin I a (nI N) 0) a (unC N K) (unL N K) (unU N K) k) a 1 (nI (unW N K k)) a 1 = nI (unW N K k) := by rw [up_at, if_pos ⟨rfl, rfl⟩]
        have ew : (if nI (unW N K k) < nI (unC N K k + 1) then nI (unC N K k + 1) else nI (unW N K k)) = nI (unW N K (k + 1)) := by
          simp only [unW]
          by_cases hz : unW N K k < unC N K k + 1
          · rw [if_pos hz, if_pos ((nI_ltI (by omega) (by omega)).mpr hz)]
          · rw [if_neg hz, if_neg (fun y => hz ((nI_ltI (by omega) (by omega)).mp y))]
        rw [dl, ea, nI_1, ew, nI_1, up_same]
        refine ⟨_, ct_lay hA (by omega) b1 b2, ?_⟩
        rw [pkLay_up1]
        exact ih (k + 1) (nI (unC N K k)) (by omega) (fun z => absurd z (by omega)) (fun i hi => by rw [show i = k by omega]) (unU N K k) (fun z => absurd z (by omega)) (fun i hi => by rw [show i = k by omega])
      refine w_X2_unpack_32 hA ⟨fun z => absurd z (nI_ge (by omega) (by omega)), fun _ => ?_⟩
      rw [dg k hkN, dc]
      refine ⟨fun z => ?_, fun z => ?_⟩
      · cases k with
        | zero =>
          rw [h5 rfl] at z
          exact absurd z (nI_ne1 (by omega))
        | succ i =>
          rw [h5' i rfl] at z
          have z := (nI_eq (by have := (c8 (i + 1)).1; omega) (by have := (c8 i).1; omega)).mp z
          have eu : unU N K (i + 1) = !u0 := by
            simp only [unU]
            rw [if_pos z, hu' i rfl]
          have e7 : s_X2_unpack_78 γ l a (lN K) (nI N) (nI (i + 1)) (nI (K / 64 ^ (N - 1 - (i + 1)) % 64)) (nI (unC N K (i + 1))) (nz (unU N K (i + 1))) (sh, up (layAll (pkBegin I a (nI N) 0) a (unC N K) (unL N K) (unU N K) (i + 1)) a 1 (nI (unW N K (i + 1))), J, R) (fun hf r => hf = (sh, up (layAll (pkBegin I a (nI N) 0) a (unC N K) (unL N K) (unU N K) N) a 1 (nI (unW N K N)), J, R) ∧ r = none) := w_X2_unpack_78 hA at80
          rw [nz_0]
          refine ⟨fun y => ?_, fun y => ?_⟩
          · rw [eu, y] at e7
            exact e7
          · have y : u0 = true := by revert y; cases u0 <;> simp
            rw [eu, y] at e7
            exact e7
      · have eu : unU N K k = u0 := by
          cases k with
          | zero => exact (hu rfl).symm
          | succ i =>
            rw [h5' i rfl] at z
            simp only [unU]
            rw [if_neg (fun y => z (by rw [y])), hu' i rfl]
        rw [← eu]
        exact at80
  have hb := ct_begin (γ := γ) (l := l) (J := J) (I := I) (p := nI N) (c := 0) hA
  have e0 : up (layAll (pkBegin I a (nI N) 0) a (unC N K) (unL N K) (unU N K) 0) a 1 (nI (unW N K 0)) = pkBegin I a (nI N) 0 := pkBegin_up1
  have t0 := lp N 0 (-1) (by omega) (fun _ => rfl) (fun i hi => absurd hi (by omega)) (unU N K 0) (fun _ => rfl) (fun i hi => absurd hi (by omega))
  rw [e0] at t0
  refine ⟨up (layAll (pkBegin I a (nI N) 0) a (unC N K) (unL N K) (unU N K) N) a 1 (nI (unW N K N)), e_X2_unpack (rW_pure (w_X2_unpack_0 hA ⟨_, hb, ?_⟩)), ?_, ?_⟩
  · rw [show (6 : Int32) * nI N = nI (6 * N) by rw [show (6 : Int32) = nI 6 from rfl, pk_mul], lq_shr (by omega) (by omega), lq_1, pow64, lg_0]
    have hb2 : K / 64 ^ N % 2 < 2 := Nat.mod_lt _ (by omega)
    refine ⟨fun z => ?_, fun z => ?_⟩
    · have z : K / 64 ^ N % 2 = 1 := lN_inj (by omega) (by decide) z
      have eu : unU N K 0 = true := by simp only [unU]; exact decide_eq_true z
      rw [eu] at t0
      exact t0
    · have z : ¬ K / 64 ^ N % 2 = 1 := fun y => z (by rw [y]; rfl)
      have eu : unU N K 0 = false := by simp only [unU]; exact decide_eq_false z
      rw [eu] at t0
      exact t0
  · rw [← layAll_up1, pkBegin_up1]
    exact PkC_lay hP.inn
  · intro b j hb'
    rw [up_at, if_neg (by omega), layAll_row (by omega), pkBegin_row (by omega)]
end UNP
