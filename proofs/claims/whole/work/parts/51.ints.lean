/-! ===== small whole numbers as ints ===== -/
def zI (z : Int) : Int32 := Int32.ofInt z
def zOk (z : Int) : Prop := -1000000000 ≤ z ∧ z ≤ 1000000000
theorem zI_nat (n : Nat) : nI n = zI (n : Int) := by
  unfold nI zI
  rw [Int32.ofInt_eq_ofNat]
theorem zI_add (a b : Int) : zI a + zI b = zI (a + b) := (Int32.ofInt_add a b).symm
theorem zI_sub (a b : Int) : zI a - zI b = zI (a - b) := (Int32.ofInt_sub a b).symm
theorem zI_mul (a b : Int) : zI a * zI b = zI (a * b) := (Int32.ofInt_mul a b).symm
theorem zI_toInt {a : Int} (h : zOk a) : (zI a).toInt = a := by
  unfold zOk at h
  unfold zI
  rw [Int32.toInt_ofInt_of_le (by omega) (by omega)]
theorem zI_lt {a b : Int} (ha : zOk a) (hb : zOk b) : zI a < zI b ↔ a < b := by
  rw [Int32.lt_iff_toInt_lt, zI_toInt ha, zI_toInt hb]
theorem zI_le {a b : Int} (ha : zOk a) (hb : zOk b) : zI a ≤ zI b ↔ a ≤ b := by
  rw [Int32.le_iff_toInt_le, zI_toInt ha, zI_toInt hb]
theorem zI_eq {a b : Int} (ha : zOk a) (hb : zOk b) : zI a = zI b ↔ a = b := by
  rw [← Int32.toInt_inj, zI_toInt ha, zI_toInt hb]
theorem zI_0 : (0 : Int32) = zI 0 := by decide
theorem zI_1 : (1 : Int32) = zI 1 := by decide
theorem zI_2 : (2 : Int32) = zI 2 := by decide
theorem zI_8 : (8 : Int32) = zI 8 := by decide
theorem zI_m1 : (-1 : Int32) = zI (-1) := by decide
theorem zI_toNat {z : Int} {n : Nat} (h : z = (n : Int)) : zI z = nI n := by rw [h, zI_nat]
theorem zI_min (a b : Int) (ha : zOk a) (hb : zOk b) : (if zI b < zI a then zI b else zI a) = zI (if b < a then b else a) := by
  by_cases h : b < a
  · rw [if_pos h, if_pos ((zI_lt hb ha).mpr h)]
  · rw [if_neg h, if_neg (fun q => h ((zI_lt hb ha).mp q))]
