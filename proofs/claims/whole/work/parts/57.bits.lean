/-! ===== sets as bits ===== -/
theorem bt_tn {n : Nat} (h : n < 2 ^ 31) : (nI n).toBitVec.toNat = n := pk_tn (by omega)
theorem bt_ext {x y : Int32} (h : x.toBitVec.toNat = y.toBitVec.toNat) : x = y := by
  apply Int32.toBitVec_inj.mp
  exact BitVec.eq_of_toNat_eq h
theorem bt_or {a b : Nat} (ha : a < 2 ^ 31) (hb : b < 2 ^ 31) : nI a ||| nI b = nI (a ||| b) := by
  have hab : a ||| b < 2 ^ 31 := Nat.or_lt_two_pow ha hb
  apply bt_ext
  rw [Int32.toBitVec_or, BitVec.toNat_or, bt_tn ha, bt_tn hb, bt_tn hab]
theorem bt_and {a b : Nat} (ha : a < 2 ^ 31) (hb : b < 2 ^ 31) : nI a &&& nI b = nI (a &&& b) := by
  have hab : a &&& b < 2 ^ 31 := Nat.lt_of_le_of_lt Nat.and_le_left ha
  apply bt_ext
  rw [Int32.toBitVec_and, BitVec.toNat_and, bt_tn ha, bt_tn hb, bt_tn hab]
theorem bt_sm {k : Nat} (h : k < 32) : (((nI k) &&& (31 : Int32)).toBitVec.smod 32).toNat = k := by
  have : ∀ k : Fin 32, (((nI k.val) &&& (31 : Int32)).toBitVec.smod 32).toNat = k.val := by decide
  exact this ⟨k, h⟩
theorem bt_shl {n k : Nat} (hk : k < 32) (h : n * 2 ^ k < 2 ^ 32) : nI n <<< (nI k &&& 31) = nI (n * 2 ^ k) := pk_shlN _ k (bt_sm hk) h
theorem bt_shr {n k : Nat} (hk : k < 32) (h : n < 2 ^ 31) : nI n >>> (nI k &&& 31) = nI (n / 2 ^ k) := pk_shrN h _ k (bt_sm hk)
theorem bt_1 {n : Nat} (h : n < 2 ^ 31) : nI n &&& 1 = nI (n % 2) := pk_andN (by omega) 1 (by decide)
theorem bt_3 {n : Nat} (h : n < 2 ^ 31) : nI n &&& 3 = nI (n % 4) := pk_andN (by omega) 2 (by decide)
theorem bt_bit {n k : Nat} (hk : k < 32) (h : n < 2 ^ 31) : (nI n >>> (nI k &&& 31)) &&& 1 = nz (n.testBit k) := by
  have h2 : n / 2 ^ k ≤ n := Nat.div_le_self _ _
  rw [bt_shr hk h, bt_1 (by omega), Nat.testBit_eq_decide_div_mod_eq]
  rcases Nat.mod_two_eq_zero_or_one (n / 2 ^ k) with e | e <;> rw [e] <;> decide
theorem bt_two {n k : Nat} (hk : k < 32) (h : n < 2 ^ 31) : (nI n >>> (nI k &&& 31)) &&& 3 = nI (n / 2 ^ k % 4) := by
  have h2 : n / 2 ^ k ≤ n := Nat.div_le_self _ _
  rw [bt_shr hk h, bt_3 (by omega)]
theorem bt_one {k : Nat} (hk : k < 31) : (1 : Int32) <<< (nI k &&& 31) = nI (2 ^ k) := by
  have h : 1 * 2 ^ k < 2 ^ 32 := by rw [Nat.one_mul]; exact Nat.pow_lt_pow_right (by omega) (by omega)
  have := bt_shl (n := 1) (by omega) h
  rw [Nat.one_mul] at this
  exact this
theorem bt_p {k : Nat} (hk : k < 31) : 2 ^ k < 2 ^ 31 := Nat.pow_lt_pow_right (by omega) hk
theorem bt_lt {m n : Nat} (h : ∀ i, n ≤ i → m.testBit i = false) : m < 2 ^ n := Nat.lt_pow_two_of_testBit m h
theorem bt_ge {m n : Nat} (h : m < 2 ^ n) : ∀ i, n ≤ i → m.testBit i = false := fun i hi => Nat.testBit_lt_two_pow (Nat.lt_of_lt_of_le h (Nat.pow_le_pow_right (by omega) hi))
/-- the set of those that f says, among the first n -/
def mkN (f : Nat → Bool) : Nat → Nat
  | 0 => 0
  | n + 1 => mkN f n ||| (if f n then 2 ^ n else 0)
theorem mkN_bit (f : Nat → Bool) : ∀ n i, (mkN f n).testBit i = (decide (i < n) && f i) := by
  intro n
  induction n with
  | zero => intro i; simp [mkN]
  | succ n ih =>
    intro i
    simp only [mkN, Nat.testBit_or, ih]
    by_cases h : f n
    · rw [if_pos h, Nat.testBit_two_pow]
      by_cases h2 : i = n
      · subst h2; simp [h]
      · have h3 : (i < n + 1) ↔ (i < n) := by omega
        simp [h3]
        intro e; exact absurd e.symm h2
    · rw [if_neg h]
      by_cases h2 : i = n
      · subst h2; simp [h]
      · have h3 : (i < n + 1) ↔ (i < n) := by omega
        simp [h3]
theorem mkN_lt (f : Nat → Bool) (n : Nat) : mkN f n < 2 ^ n := bt_lt (fun i hi => by rw [mkN_bit]; simp; omega)
theorem mkN_31 (f : Nat → Bool) {n : Nat} (h : n ≤ 16) : mkN f n < 2 ^ 31 := Nat.lt_of_lt_of_le (mkN_lt f n) (Nat.pow_le_pow_right (by omega) (by omega))
theorem mkN_eq {f : Nat → Bool} {n m : Nat} (h : ∀ i, m.testBit i = (decide (i < n) && f i)) : m = mkN f n := Nat.eq_of_testBit_eq (fun i => by rw [h, mkN_bit])
theorem bt_not {a b : Nat} (ha : a < 2 ^ 31) (hb : b < 2 ^ 31) : (nI a &&& (nI b ^^^ (-1 : Int32))) = 0 ↔ ∀ i, a.testBit i = true → b.testBit i = true := by
  have e : (nI a &&& (nI b ^^^ (-1 : Int32))) = 0 ↔ (nI a &&& (nI b ^^^ (-1 : Int32))).toBitVec = 0#32 := by
    constructor
    · intro h; rw [h]; rfl
    · intro h; exact Int32.toBitVec_inj.mp h
  rw [e, Int32.toBitVec_and, Int32.toBitVec_xor]
  have hA : ∀ i, (nI a).toBitVec.getLsbD i = a.testBit i := fun i => by rw [BitVec.getLsbD, bt_tn ha]
  have hB : ∀ i, (nI b).toBitVec.getLsbD i = b.testBit i := fun i => by rw [BitVec.getLsbD, bt_tn hb]
  constructor
  · intro h i hi
    have h2 : ((nI a).toBitVec &&& ((nI b).toBitVec ^^^ (-1 : Int32).toBitVec)).getLsbD i = (0#32).getLsbD i := by rw [h]
    have hi2 : i < 32 := by
      rcases Nat.lt_or_ge i 32 with q | q
      · exact q
      · rw [bt_ge (n := 31) ha i (by omega)] at hi; exact absurd hi (by decide)
    rw [BitVec.getLsbD_and, BitVec.getLsbD_xor, hA, hB, hi, show (-1 : Int32).toBitVec = BitVec.allOnes 32 from by decide, BitVec.getLsbD_allOnes] at h2
    simp [hi2] at h2
    exact h2
  · intro h
    apply BitVec.eq_of_getLsbD_eq
    intro i hi
    rw [BitVec.getLsbD_and, BitVec.getLsbD_xor, hA, hB, show (-1 : Int32).toBitVec = BitVec.allOnes 32 from by decide, BitVec.getLsbD_allOnes]
    simp [hi]
    exact h i
