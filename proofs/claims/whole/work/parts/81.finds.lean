/-! ===== finds: what is known; sheet, find, finds ===== -/
/-- creases: known, which; slits; dirt -/
abbrev Fnd : Type := (Nat → Bool) × (Nat → Nat) × (Nat → Bool) × (Nat → Bool) × (Nat → Bool) × (Nat → Bool)
abbrev fKc (F : Fnd) : Nat → Bool := F.1
abbrev fVc (F : Fnd) : Nat → Nat := F.2.1
abbrev fKs (F : Fnd) : Nat → Bool := F.2.2.1
abbrev fVs (F : Fnd) : Nat → Bool := F.2.2.2.1
abbrev fKd (F : Fnd) : Nat → Bool := F.2.2.2.2.1
abbrev fVd (F : Fnd) : Nat → Bool := F.2.2.2.2.2
def ckN (N : Nat) (F : Fnd) : Nat := mkN (fun j => fKc F (j / 2)) (2 * (N - 1))
def crF (N : Nat) (F : Fnd) : Nat := mkN (fun j => fKc F (j / 2) && (fVc F (j / 2)).testBit (j % 2)) (2 * (N - 1))
def skN (N : Nat) (F : Fnd) : Nat := mkN (fKs F) N
def slN (N : Nat) (F : Fnd) : Nat := mkN (fun i => fKs F i && fVs F i) N
def dkN (N : Nat) (F : Fnd) : Nat := mkN (fKd F) (2 * N)
def diN (N : Nat) (F : Fnd) : Nat := mkN (fun i => fKd F i && fVd F i) (2 * N)
def FdC (I : Nat → Nat → Int32) (a N : Nat) (F : Fnd) : Prop := I a 0 = nI N ∧ I a 1 = nI (ckN N F) ∧ I a 2 = nI (crF N F) ∧ I a 3 = nI (skN N F) ∧ I a 4 = nI (slN N F) ∧ I a 5 = nI (dkN N F) ∧ I a 6 = nI (diN N F)
def FdM (I : Nat → Nat → Int32) (m N : Nat) (F : Fnd) : Prop := (∀ i, i + 1 < N → I (m + 38) i = if fKc F i then nI (fVc F i) else -1) ∧ (∀ i, i < N → I (m + 39) i = if fKs F i then nz (fVs F i) else -1) ∧ ∀ f, f < 2 * N → I (m + 40) f = if fKd F f then nz (fVd F f) else -1
theorem FdC.loc {I I' : Nat → Nat → Int32} {a N : Nat} {F : Fnd} (h : FdC I a N F) (hq : ∀ j, j < 7 → I' a j = I a j) : FdC I' a N F := by
  obtain ⟨h0, h1, h2, h3, h4, h5, h6⟩ := h
  exact ⟨(hq _ (by omega)).trans h0, (hq _ (by omega)).trans h1, (hq _ (by omega)).trans h2, (hq _ (by omega)).trans h3, (hq _ (by omega)).trans h4, (hq _ (by omega)).trans h5, (hq _ (by omega)).trans h6⟩
theorem FdM.loc {I I' : Nat → Nat → Int32} {m N : Nat} {F : Fnd} (h : FdM I m N F) (hq : ∀ b j, b = m + 38 ∨ b = m + 39 ∨ b = m + 40 → I' b j = I b j) : FdM I' m N F :=
  ⟨fun i hi => (hq _ _ (by omega)).trans (h.1 i hi), fun i hi => (hq _ _ (by omega)).trans (h.2.1 i hi), fun i hi => (hq _ _ (by omega)).trans (h.2.2 i hi)⟩
theorem tb3 (i j : Nat) : (3 * 2 ^ (2 * i)).testBit j = decide (j / 2 = i) := by
  rw [Nat.testBit_mul_two_pow]
  by_cases h : 2 * i ≤ j
  · have h1 : (3 : Nat).testBit (j - 2 * i) = decide (j - 2 * i < 2) := Nat.testBit_two_pow_sub_one 2 (j - 2 * i)
    rw [h1]
    have e : (j - 2 * i < 2) ↔ (j / 2 = i) := by omega
    simp [h, e]
  · have : ¬ j / 2 = i := by omega
    simp [h, this]
theorem tbv {v : Nat} (hv : v < 4) (i j : Nat) : (v * 2 ^ (2 * i)).testBit j = (decide (j / 2 = i) && v.testBit (j % 2)) := by
  rw [Nat.testBit_mul_two_pow]
  by_cases h : j / 2 = i
  · have h1 : 2 * i ≤ j := by omega
    have h2 : j - 2 * i = j % 2 := by omega
    simp [h, h1, h2]
  · by_cases h1 : 2 * i ≤ j
    · have h2 : v.testBit (j - 2 * i) = false := bt_ge (n := 2) (by omega) _ (by omega)
      simp [h, h2]
    · simp [h, h1]
theorem and_not {x y : Nat} (hx : x < 2 ^ 31) (hy : y < 2 ^ 31) : nI x &&& (nI y ^^^ (-1 : Int32)) = nI (mkN (fun i => x.testBit i && !y.testBit i) 31) := by
  apply bt_ext
  have hm : mkN (fun i => x.testBit i && !y.testBit i) 31 < 2 ^ 31 := mkN_lt _ _
  rw [bt_tn hm]
  apply Nat.eq_of_testBit_eq
  intro i
  rw [mkN_bit]
  have hA : ∀ i, (nI x).toBitVec.getLsbD i = x.testBit i := fun i => by rw [BitVec.getLsbD, bt_tn hx]
  have hB : ∀ i, (nI y).toBitVec.getLsbD i = y.testBit i := fun i => by rw [BitVec.getLsbD, bt_tn hy]
  show (nI x &&& (nI y ^^^ (-1 : Int32))).toBitVec.getLsbD i = _
  rw [Int32.toBitVec_and, Int32.toBitVec_xor, BitVec.getLsbD_and, BitVec.getLsbD_xor, hA, hB, show (-1 : Int32).toBitVec = BitVec.allOnes 32 from by decide, BitVec.getLsbD_allOnes]
  by_cases hi : i < 31
  · have : i < 32 := by omega
    simp [hi, this]
  · rw [bt_ge (n := 31) hx i (by omega)]
    simp
theorem andnot_eq {x y z : Nat} (hx : x < 2 ^ 31) (hy : y < 2 ^ 31) (h : ∀ i, z.testBit i = (x.testBit i && !y.testBit i)) : nI x &&& (nI y ^^^ (-1 : Int32)) = nI z := by
  rw [and_not hx hy]
  congr 1
  apply Nat.eq_of_testBit_eq
  intro i
  rw [mkN_bit, h]
  by_cases hi : i < 31
  · simp [hi]
  · rw [bt_ge (n := 31) hx i (by omega)]; simp
def setFc (F : Fnd) (i : Nat) (k : Bool) (v : Nat) : Fnd := ((fun j => if j = i then k else fKc F j), (fun j => if j = i then v else fVc F j), F.2.2)
def setFs (F : Fnd) (i : Nat) (k v : Bool) : Fnd := (fKc F, fVc F, (fun j => if j = i then k else fKs F j), (fun j => if j = i then v else fVs F j), fKd F, fVd F)
def setFd (F : Fnd) (i : Nat) (k v : Bool) : Fnd := (fKc F, fVc F, fKs F, fVs F, (fun j => if j = i then k else fKd F j), (fun j => if j = i then v else fVd F j))
section FND
variable {γ : rG} {l : Launch} {sh : Nat × (Nat → Nat) × (Nat → Nat)} {I : Nat → Nat → Int32} {J : Nat → Nat → Int64} {R : Nat → Nat → Option Nat} {a m N : Nat} {F : Fnd}
theorem f31 {f : Nat → Bool} {k : Nat} (h : k ≤ 16) : mkN f k < 2 ^ 31 := mkN_31 f h
theorem pow16 {i : Nat} (h : i < 31) : 2 ^ i < 2 ^ 31 := bt_p h
/-- the class notes a crease -/
theorem ct_noteCrease {i : Nat} {x : Int32} (hA : At0 sh R a) (hC : FdC I a N F) (hN : 2 ≤ N ∧ N ≤ 8) (hi : i + 1 < N) (hx : x = -1 ∨ ∃ v : Nat, v < 4 ∧ x = nI v) :
    ∃ I' F', rMet γ l m_X0_noteCrease [.ref a, .int (nI i), .int x] (sh, I, J, R) (sh, I', J, R) (some (.int 1)) ∧ FdC I' a N F' ∧ I' a 7 = 0 ∧ Sm (fun b j => b = a ∧ j < 8) I I' ∧ F' = setFc F i (decide (¬ x = -1)) (if x = -1 then 0 else x.toNatClampNeg) := by
  obtain ⟨h0, h1, h2, h3, h4, h5, h6⟩ := hC
  have eN : I a 0 - 1 = nI (N - 1) := by rw [h0]; exact pk_sub (b := 1) (by omega)
  have tw : ((2 : Int32) * nI i) = nI (2 * i) := pk_mul 2 i
  have b3 : (3 : Int32) <<< (nI (2 * i) &&& 31) = nI (3 * 2 ^ (2 * i)) := by
    have hp : 2 ^ (2 * i) ≤ 2 ^ 12 := Nat.pow_le_pow_right (by omega) (by omega)
    exact bt_shl (n := 3) (by omega) (by omega)
  have hp : 2 ^ (2 * i) ≤ 2 ^ 12 := Nat.pow_le_pow_right (by omega) (by omega)
  have l1 : ckN N F < 2 ^ 31 := f31 (by omega)
  have l2 : crF N F < 2 ^ 31 := f31 (by omega)
  have key : s_X0_noteCrease_0 γ l a (nI i) x (sh, I, J, R) (fun hf v => ∃ I', hf = (sh, I', J, R) ∧ v = some (.int 1) ∧ (FdC I' a N (setFc F i (decide (¬ x = -1)) (if x = -1 then 0 else x.toNatClampNeg)) ∧ I' a 7 = 0 ∧ Sm (fun b j => b = a ∧ j < 8) I I')) := by
    refine w_X0_noteCrease_0 hA ?_
    rw [eN, tw, b3, h1]
    refine ⟨fun z => absurd z (nI_pos (by omega)), fun _ => ⟨fun z => absurd z (nI_ge (by omega) (by omega)), fun _ => ⟨fun z => ?_, fun _ => ⟨fun _ => ⟨fun z => ?_, fun z => ?_⟩, fun z => ?_⟩⟩⟩⟩
    · rcases hx with hx | ⟨v, hv, hx⟩
      · rw [hx] at z; exact absurd z (by decide)
      · rw [hx] at z; exact absurd (Int32.lt_trans z (by decide)) (nI_pos (by omega))
    · refine w_X0_noteCrease_55 hA hA ⟨fun _ => ?_, fun y => absurd z y⟩
      rw [show (up I a 1 (nI (ckN N F) &&& (nI (3 * 2 ^ (2 * i)) ^^^ (-1 : Int32)))) a 2 = nI (crF N F) from by rw [up_at, if_neg (by omega)]; exact h2, andnot_eq (z := ckN N (setFc F i false 0)) l1 (by omega) (fun j => by
        unfold ckN; rw [mkN_bit, mkN_bit, tb3]; show (_ && (if j / 2 = i then false else fKc F (j / 2))) = _
        by_cases q : j / 2 = i
        · simp [q]
        · simp [q]), andnot_eq (z := crF N (setFc F i false 0)) l2 (by omega) (fun j => by
        unfold crF; rw [mkN_bit, mkN_bit, tb3]; show (_ && ((if j / 2 = i then false else fKc F (j / 2)) && (if j / 2 = i then 0 else fVc F (j / 2)).testBit (j % 2))) = _
        by_cases q : j / 2 = i
        · simp [q]
        · simp [q])]
      refine ⟨_, rfl, rfl, ?_, ?_, ?_⟩
      · rw [if_pos z, show decide (¬ x = -1) = false from by simp [z]]
        refine ⟨?_, ?_, ?_, ?_, ?_, ?_, ?_⟩
        · simp [up_at, h0]
        · simp [up_at]
        · simp [up_at]
        · simp [up_at, h3]; rfl
        · simp [up_at, h4]; rfl
        · simp [up_at, h5]; rfl
        · simp [up_at, h6]; rfl
      · simp [up_at]
      · exact ((Sm.rf.up (by simp)).up (by simp)).up (by simp)
    · obtain ⟨v, hv, rfl⟩ := hx.resolve_left z
      have evl : nI v <<< (((2 : Int32) * nI i) &&& 31) = nI (v * 2 ^ (2 * i)) := by
        rw [tw]
        have : v * 2 ^ (2 * i) ≤ 4 * 2 ^ 12 := Nat.mul_le_mul (by omega) hp
        exact bt_shl (n := v) (by omega) (by omega)
      have hvb : v * 2 ^ (2 * i) < 2 ^ 31 := by
        have : v * 2 ^ (2 * i) ≤ 4 * 2 ^ 12 := Nat.mul_le_mul (by omega) hp
        omega
      refine w_X0_noteCrease_55 hA hA ⟨fun y => absurd y z, fun _ => ?_⟩
      rw [bt_or l1 (by omega), evl]
      rw [show (up I a 1 (nI (ckN N F ||| 3 * 2 ^ (2 * i)))) a 2 = nI (crF N F) from by rw [up_at, if_neg (by omega)]; exact h2]
      rw [and_not l2 (show 3 * 2 ^ (2 * i) < 2 ^ 31 by omega), bt_or (mkN_lt _ _) hvb]
      have e1 : ckN N F ||| 3 * 2 ^ (2 * i) = ckN N (setFc F i true v) := by
        apply Nat.eq_of_testBit_eq
        intro j
        unfold ckN
        rw [Nat.testBit_or, mkN_bit, mkN_bit, tb3]
        show _ = (_ && (if j / 2 = i then true else fKc F (j / 2)))
        by_cases q : j / 2 = i
        · have : j < 2 * (N - 1) := by omega
          simp [q, this]
        · simp [q]
      have e2 : mkN (fun j => (crF N F).testBit j && !(3 * 2 ^ (2 * i)).testBit j) 31 ||| v * 2 ^ (2 * i) = crF N (setFc F i true v) := by
        apply Nat.eq_of_testBit_eq
        intro j
        unfold crF
        rw [Nat.testBit_or, mkN_bit, mkN_bit, tb3, tbv hv, mkN_bit]
        show _ = (_ && ((if j / 2 = i then true else fKc F (j / 2)) && (if j / 2 = i then v else fVc F (j / 2)).testBit (j % 2)))
        by_cases q : j / 2 = i
        · have : j < 2 * (N - 1) := by omega
          simp [q, this]
        · by_cases q2 : j < 2 * (N - 1)
          · have : j < 31 := by omega
            simp [q, q2, this]
          · simp [q, q2]
      rw [e1, e2]
      refine ⟨_, rfl, rfl, ?_, ?_, ?_⟩
      · rw [if_neg z, show decide (¬ nI v = -1) = true from by simp [z], nI_clamp (show v < 2 ^ 31 by omega)]
        refine ⟨?_, ?_, ?_, ?_, ?_, ?_, ?_⟩
        · simp [up_at, h0]
        · simp [up_at]
        · simp [up_at]
        · simp [up_at, h3]; rfl
        · simp [up_at, h4]; rfl
        · simp [up_at, h5]; rfl
        · simp [up_at, h6]; rfl
      · simp [up_at]
      · exact ((Sm.rf.up (by simp)).up (by simp)).up (by simp)
    · rcases hx with hx | ⟨v, hv, hx⟩
      · rw [hx] at z; exact absurd (by decide) z
      · rw [hx] at z; exact absurd (nI_le (show v ≤ 3 by omega) (by decide)) z
  obtain ⟨I', q1, q2, q3, q4⟩ := rW_ex key
  exact ⟨I', _, e_X0_noteCrease q1, q2, q3, q4, rfl⟩
theorem ct_noteSlit {i : Nat} {x : Int32} (hA : At0 sh R a) (hC : FdC I a N F) (hN : 2 ≤ N ∧ N ≤ 8) (hi : i < N) (hx : x = -1 ∨ x = 0 ∨ x = 1) :
    ∃ I' F', rMet γ l m_X0_noteSlit [.ref a, .int (nI i), .int x] (sh, I, J, R) (sh, I', J, R) (some (.int 1)) ∧ FdC I' a N F' ∧ I' a 7 = 0 ∧ Sm (fun b j => b = a ∧ j < 8) I I' ∧ F' = setFs F i (decide (¬ x = -1)) (decide (x = 1)) := by
  obtain ⟨h0, h1, h2, h3, h4, h5, h6⟩ := hC
  have b1 : (1 : Int32) <<< (nI i &&& 31) = nI (2 ^ i) := bt_one (by omega)
  have l1 : skN N F < 2 ^ 31 := f31 (by omega)
  have l2 : slN N F < 2 ^ 31 := f31 (by omega)
  have lp : 2 ^ i < 2 ^ 31 := bt_p (by omega)
  have k1 : nI (skN N F) ||| nI (2 ^ i) = nI (skN N (setFs F i true (decide (x = 1)))) := by
    rw [bt_or l1 lp]
    congr 1
    apply Nat.eq_of_testBit_eq
    intro j
    unfold skN
    rw [Nat.testBit_or, mkN_bit, mkN_bit, Nat.testBit_two_pow]
    show _ = (_ && (if j = i then true else fKs F j))
    by_cases q : j = i
    · subst q; simp [hi]
    · have : ¬ i = j := fun z => q z.symm
      simp [q, this]
  have k0 : nI (skN N F) &&& (nI (2 ^ i) ^^^ (-1 : Int32)) = nI (skN N (setFs F i false (decide (x = 1)))) := andnot_eq l1 lp (fun j => by
    unfold skN
    rw [mkN_bit, mkN_bit, Nat.testBit_two_pow]
    show (_ && (if j = i then false else fKs F j)) = _
    by_cases q : j = i
    · subst q; simp
    · have : ¬ i = j := fun z => q z.symm
      simp [q, this])
  have v1 : x = 1 → nI (slN N F) ||| nI (2 ^ i) = nI (slN N (setFs F i true true)) := by
    intro _
    rw [bt_or l2 lp]
    congr 1
    apply Nat.eq_of_testBit_eq
    intro j
    unfold slN
    rw [Nat.testBit_or, mkN_bit, mkN_bit, Nat.testBit_two_pow]
    show _ = (_ && ((if j = i then true else fKs F j) && (if j = i then true else fVs F j)))
    by_cases q : j = i
    · subst q; simp [hi]
    · have : ¬ i = j := fun z => q z.symm
      simp [q, this]
  have v0 : ∀ k : Bool, nI (slN N F) &&& (nI (2 ^ i) ^^^ (-1 : Int32)) = nI (slN N (setFs F i k false)) := fun k => andnot_eq l2 lp (fun j => by
    unfold slN
    rw [mkN_bit, mkN_bit, Nat.testBit_two_pow]
    show (_ && ((if j = i then k else fKs F j) && (if j = i then false else fVs F j))) = _
    by_cases q : j = i
    · subst q; simp
    · have : ¬ i = j := fun z => q z.symm
      simp [q, this])
  have fin : ∀ (s0 w : Int32) (F' : Fnd), s0 = nI (skN N F') → w = nI (slN N F') → F' = setFs F i (decide (¬ x = -1)) (decide (x = 1)) → ∃ I', (sh, up (up (up I a 3 s0) a 4 w) a 7 0, J, R) = (sh, I', J, R) ∧ some (Value.int 1) = some (.int 1) ∧ (FdC I' a N (setFs F i (decide (¬ x = -1)) (decide (x = 1))) ∧ I' a 7 = 0 ∧ Sm (fun b j => b = a ∧ j < 8) I I') := by
    intro s0 w F' e1 e2 e3
    subst e3
    refine ⟨_, rfl, rfl, ⟨?_, ?_, ?_, ?_, ?_, ?_, ?_⟩, ?_, ?_⟩
    · simp [up_at, h0]
    · simp [up_at, h1]; rfl
    · simp [up_at, h2]; rfl
    · simp [up_at, e1]
    · simp [up_at, e2]
    · simp [up_at, h5]; rfl
    · simp [up_at, h6]; rfl
    · simp [up_at]
    · exact ((Sm.rf.up (by simp)).up (by simp)).up (by simp)
  have key : s_X0_noteSlit_0 γ l a (nI i) x (sh, I, J, R) (fun hf v => ∃ I', hf = (sh, I', J, R) ∧ v = some (.int 1) ∧ (FdC I' a N (setFs F i (decide (¬ x = -1)) (decide (x = 1))) ∧ I' a 7 = 0 ∧ Sm (fun b j => b = a ∧ j < 8) I I')) := by
    refine w_X0_noteSlit_0 hA ?_
    rw [h0, b1, h3]
    refine ⟨fun z => absurd z (nI_pos (by omega)), fun _ => ⟨fun z => absurd z (nI_ge (by omega) (by omega)), fun _ => ⟨fun z => ?_, fun _ => ⟨fun _ => ⟨fun z => ?_, fun z => ?_⟩, fun z => ?_⟩⟩⟩⟩
    · rcases hx with hx | hx | hx <;> rw [hx] at z <;> exact absurd z (by decide)
    · subst z
      rw [k0]
      refine w_X0_noteSlit_51 hA hA ⟨fun y => absurd y (by decide), fun _ => ?_⟩
      rw [show (up I a 3 (nI (skN N (setFs F i false (decide ((-1 : Int32) = 1)))))) a 4 = nI (slN N F) from by rw [up_at, if_neg (by omega)]; exact h4, v0 false]
      exact fin _ _ (setFs F i false false) rfl rfl rfl
    · have hx2 := hx.resolve_left z
      rw [k1]
      refine w_X0_noteSlit_51 hA hA ⟨fun y => ?_, fun y => ?_⟩
      · rw [show (up I a 3 (nI (skN N (setFs F i true (decide (x = 1)))))) a 4 = nI (slN N F) from by rw [up_at, if_neg (by omega)]; exact h4, v1 y]
        refine fin _ _ (setFs F i true true) ?_ rfl ?_
        · rw [show decide (x = 1) = true from by simp [y]]
        · rw [show decide (x = 1) = true from by simp [y], show decide (¬ x = -1) = true from by simp [z]]
      · rw [show (up I a 3 (nI (skN N (setFs F i true (decide (x = 1)))))) a 4 = nI (slN N F) from by rw [up_at, if_neg (by omega)]; exact h4, v0 true]
        refine fin _ _ (setFs F i true false) ?_ rfl ?_
        · rw [show decide (x = 1) = false from by simp [y]]
        · rw [show decide (x = 1) = false from by simp [y], show decide (¬ x = -1) = true from by simp [z]]
    · rcases hx with hx | hx | hx <;> rw [hx] at z <;> exact absurd (by decide) z
  obtain ⟨I', q1, q2, q3, q4⟩ := rW_ex key
  exact ⟨I', _, e_X0_noteSlit q1, q2, q3, q4, rfl⟩
theorem ct_noteDirt {i : Nat} {x : Int32} (hA : At0 sh R a) (hC : FdC I a N F) (hN : 2 ≤ N ∧ N ≤ 8) (hi : i < 2 * N) (hx : x = -1 ∨ x = 0 ∨ x = 1) :
    ∃ I' F', rMet γ l m_X0_noteDirt [.ref a, .int (nI i), .int x] (sh, I, J, R) (sh, I', J, R) (some (.int 1)) ∧ FdC I' a N F' ∧ I' a 7 = 0 ∧ Sm (fun b j => b = a ∧ j < 8) I I' ∧ F' = setFd F i (decide (¬ x = -1)) (decide (x = 1)) := by
  obtain ⟨h0, h1, h2, h3, h4, h5, h6⟩ := hC
  have b1 : (1 : Int32) <<< (nI i &&& 31) = nI (2 ^ i) := bt_one (by omega)
  have l1 : dkN N F < 2 ^ 31 := f31 (by omega)
  have l2 : diN N F < 2 ^ 31 := f31 (by omega)
  have lp : 2 ^ i < 2 ^ 31 := bt_p (by omega)
  have k1 : nI (dkN N F) ||| nI (2 ^ i) = nI (dkN N (setFd F i true (decide (x = 1)))) := by
    rw [bt_or l1 lp]
    congr 1
    apply Nat.eq_of_testBit_eq
    intro j
    unfold dkN
    rw [Nat.testBit_or, mkN_bit, mkN_bit, Nat.testBit_two_pow]
    show _ = (_ && (if j = i then true else fKd F j))
    by_cases q : j = i
    · subst q; simp [hi]
    · have : ¬ i = j := fun z => q z.symm
      simp [q, this]
  have k0 : nI (dkN N F) &&& (nI (2 ^ i) ^^^ (-1 : Int32)) = nI (dkN N (setFd F i false (decide (x = 1)))) := andnot_eq l1 lp (fun j => by
    unfold dkN
    rw [mkN_bit, mkN_bit, Nat.testBit_two_pow]
    show (_ && (if j = i then false else fKd F j)) = _
    by_cases q : j = i
    · subst q; simp
    · have : ¬ i = j := fun z => q z.symm
      simp [q, this])
  have v1 : x = 1 → nI (diN N F) ||| nI (2 ^ i) = nI (diN N (setFd F i true true)) := by
    intro _
    rw [bt_or l2 lp]
    congr 1
    apply Nat.eq_of_testBit_eq
    intro j
    unfold diN
    rw [Nat.testBit_or, mkN_bit, mkN_bit, Nat.testBit_two_pow]
    show _ = (_ && ((if j = i then true else fKd F j) && (if j = i then true else fVd F j)))
    by_cases q : j = i
    · subst q; simp [hi]
    · have : ¬ i = j := fun z => q z.symm
      simp [q, this]
  have v0 : ∀ k : Bool, nI (diN N F) &&& (nI (2 ^ i) ^^^ (-1 : Int32)) = nI (diN N (setFd F i k false)) := fun k => andnot_eq l2 lp (fun j => by
    unfold diN
    rw [mkN_bit, mkN_bit, Nat.testBit_two_pow]
    show (_ && ((if j = i then k else fKd F j) && (if j = i then false else fVd F j))) = _
    by_cases q : j = i
    · subst q; simp
    · have : ¬ i = j := fun z => q z.symm
      simp [q, this])
  have fin : ∀ (s0 w : Int32) (F' : Fnd), s0 = nI (dkN N F') → w = nI (diN N F') → F' = setFd F i (decide (¬ x = -1)) (decide (x = 1)) → ∃ I', (sh, up (up (up I a 5 s0) a 6 w) a 7 0, J, R) = (sh, I', J, R) ∧ some (Value.int 1) = some (.int 1) ∧ (FdC I' a N (setFd F i (decide (¬ x = -1)) (decide (x = 1))) ∧ I' a 7 = 0 ∧ Sm (fun b j => b = a ∧ j < 8) I I') := by
    intro s0 w F' e1 e2 e3
    subst e3
    refine ⟨_, rfl, rfl, ⟨?_, ?_, ?_, ?_, ?_, ?_, ?_⟩, ?_, ?_⟩
    · simp [up_at, h0]
    · simp [up_at, h1]; rfl
    · simp [up_at, h2]; rfl
    · simp [up_at, h3]; rfl
    · simp [up_at, h4]; rfl
    · simp [up_at, e1]
    · simp [up_at, e2]
    · simp [up_at]
    · exact ((Sm.rf.up (by simp)).up (by simp)).up (by simp)
  have key : s_X0_noteDirt_0 γ l a (nI i) x (sh, I, J, R) (fun hf v => ∃ I', hf = (sh, I', J, R) ∧ v = some (.int 1) ∧ (FdC I' a N (setFd F i (decide (¬ x = -1)) (decide (x = 1))) ∧ I' a 7 = 0 ∧ Sm (fun b j => b = a ∧ j < 8) I I')) := by
    refine w_X0_noteDirt_0 hA ?_
    rw [h0, b1, h5, show (2 : Int32) * nI N = nI (2 * N) from pk_mul 2 N]
    refine ⟨fun z => absurd z (nI_pos (by omega)), fun _ => ⟨fun z => absurd z (nI_ge (by omega) (by omega)), fun _ => ⟨fun z => ?_, fun _ => ⟨fun _ => ⟨fun z => ?_, fun z => ?_⟩, fun z => ?_⟩⟩⟩⟩
    · rcases hx with hx | hx | hx <;> rw [hx] at z <;> exact absurd z (by decide)
    · subst z
      rw [k0]
      refine w_X0_noteDirt_53 hA hA ⟨fun y => absurd y (by decide), fun _ => ?_⟩
      rw [show (up I a 5 (nI (dkN N (setFd F i false (decide ((-1 : Int32) = 1)))))) a 6 = nI (diN N F) from by rw [up_at, if_neg (by omega)]; exact h6, v0 false]
      exact fin _ _ (setFd F i false false) rfl rfl rfl
    · have hx2 := hx.resolve_left z
      rw [k1]
      refine w_X0_noteDirt_53 hA hA ⟨fun y => ?_, fun y => ?_⟩
      · rw [show (up I a 5 (nI (dkN N (setFd F i true (decide (x = 1)))))) a 6 = nI (diN N F) from by rw [up_at, if_neg (by omega)]; exact h6, v1 y]
        refine fin _ _ (setFd F i true true) ?_ rfl ?_
        · rw [show decide (x = 1) = true from by simp [y]]
        · rw [show decide (x = 1) = true from by simp [y], show decide (¬ x = -1) = true from by simp [z]]
      · rw [show (up I a 5 (nI (dkN N (setFd F i true (decide (x = 1)))))) a 6 = nI (diN N F) from by rw [up_at, if_neg (by omega)]; exact h6, v0 true]
        refine fin _ _ (setFd F i true false) ?_ rfl ?_
        · rw [show decide (x = 1) = false from by simp [y]]
        · rw [show decide (x = 1) = false from by simp [y], show decide (¬ x = -1) = true from by simp [z]]
    · rcases hx with hx | hx | hx <;> rw [hx] at z <;> exact absurd (by decide) z
  obtain ⟨I', q1, q2, q3, q4⟩ := rW_ex key
  exact ⟨I', _, e_X0_noteDirt q1, q2, q3, q4, rfl⟩
end FND
