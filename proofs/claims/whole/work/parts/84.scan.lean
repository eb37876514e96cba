/-! ===== the text cut into tokens: the class ===== -/
def ltB (x : Int32) : Bool := !(decide (x < 97) || decide (122 < x))
def dgB (x : Int32) : Bool := !(decide (x < 48) || decide (57 < x))
def blB (x : Int32) : Bool := decide (x = 9) || (decide (x = 10) || (decide (x = 13) || decide (x = 32)))
def seek (p : Nat → Bool) : Nat → Nat → Nat
  | 0, i => i
  | d + 1, i => if p i then i else seek p d (i + 1)
theorem seek_le (p : Nat → Bool) : ∀ d i, i ≤ seek p d i ∧ seek p d i ≤ i + d := by
  intro d
  induction d with
  | zero => intro i; exact ⟨Nat.le_refl _, Nat.le_refl _⟩
  | succ d ih =>
    intro i
    have := ih (i + 1)
    by_cases h : p i = true
    · simp only [seek, h, if_true]; omega
    · simp only [seek, h, if_false, Bool.false_eq_true]; omega
theorem seek_no (p : Nat → Bool) : ∀ d i j, i ≤ j → j < seek p d i → p j = false := by
  intro d
  induction d with
  | zero => intro i j h1 h2; simp only [seek] at h2; omega
  | succ d ih =>
    intro i j h1 h2
    by_cases h : p i = true
    · simp only [seek, h, if_true] at h2; omega
    · simp only [seek, h, if_false, Bool.false_eq_true] at h2
      by_cases hj : j = i
      · rw [hj]; simpa using h
      · exact ih (i + 1) j (by omega) h2
theorem seek_yes (p : Nat → Bool) : ∀ d i, seek p d i < i + d → p (seek p d i) = true := by
  intro d
  induction d with
  | zero => intro i h; simp only [seek] at h; omega
  | succ d ih =>
    intro i h
    by_cases hp : p i = true
    · simp only [seek, hp, if_true]
    · simp only [seek, hp, if_false, Bool.false_eq_true] at h ⊢
      exact ih (i + 1) (by omega)
def dgv (x : Int32) : Nat := (x - 48).toNatClampNeg
def ltv (x : Int32) : Nat := (x - 96).toNatClampNeg
theorem rng_nI {x : Int32} {a b : Nat} (ha : a < 2 ^ 31) (hb : b < 2 ^ 31) (h1 : ¬ x < nI a) (h2 : ¬ nI b < x) : ∃ j, a ≤ j ∧ j ≤ b ∧ x = nI j := by
  have h0 : ¬ x < 0 := fun z => by
    apply h1
    have e1 := Int32.lt_iff_toInt_lt.mp z
    apply Int32.lt_iff_toInt_lt.mpr
    rw [nI_toInt ha]
    have : (0 : Int32).toInt = 0 := by decide
    omega
  obtain ⟨j, hj, rfl⟩ := nI_of h0
  rw [nI_ltI hj ha] at h1
  rw [nI_ltI hb hj] at h2
  exact ⟨j, by omega, by omega, rfl⟩
theorem dgB_ex {x : Int32} (h : dgB x = true) : ∃ j, j < 10 ∧ x = nI (48 + j) := by
  unfold dgB at h
  simp only [Bool.not_eq_true', Bool.or_eq_false_iff, decide_eq_false_iff_not] at h
  obtain ⟨j, h1, h2, h3⟩ := rng_nI (a := 48) (b := 57) (by decide) (by decide) h.1 h.2
  exact ⟨j - 48, by omega, by rw [h3]; congr 1; omega⟩
theorem ltB_ex {x : Int32} (h : ltB x = true) : ∃ j, 1 ≤ j ∧ j ≤ 26 ∧ x = nI (96 + j) := by
  unfold ltB at h
  simp only [Bool.not_eq_true', Bool.or_eq_false_iff, decide_eq_false_iff_not] at h
  obtain ⟨j, h1, h2, h3⟩ := rng_nI (a := 97) (b := 122) (by decide) (by decide) h.1 h.2
  exact ⟨j - 96, by omega, by omega, by rw [h3]; congr 1; omega⟩
theorem nI_sub' (a b : Nat) : nI (a + b) - nI a = nI b := by
  rw [← nI_add]
  have : nI a + nI b - nI a = nI b := by
    rw [Int32.add_comm, Int32.sub_eq_add_neg, Int32.add_assoc, ← Int32.sub_eq_add_neg, Int32.sub_self, Int32.add_zero]
  exact this
theorem dgB_v {x : Int32} (h : dgB x = true) : x - 48 = nI (dgv x) ∧ dgv x < 10 := by
  obtain ⟨j, h1, h2⟩ := dgB_ex h
  have e : x - 48 = nI j := by rw [h2]; exact nI_sub' 48 j
  have e2 : dgv x = j := by unfold dgv; rw [e, nI_clamp (by omega)]
  rw [e2]; exact ⟨e, h1⟩
theorem ltB_v {x : Int32} (h : ltB x = true) : x = nI (96 + ltv x) ∧ 1 ≤ ltv x ∧ ltv x ≤ 26 := by
  obtain ⟨j, h1, h2, h3⟩ := ltB_ex h
  have e : x - 96 = nI j := by rw [h3]; exact nI_sub' 96 j
  have e2 : ltv x = j := by unfold ltv; rw [e, nI_clamp (by omega)]
  rw [e2]; exact ⟨h3, h1, h2⟩
def dN (f : Nat → Int32) (st : Nat) : Nat → Nat
  | 0 => 0
  | k + 1 => 10 * dN f st k + dgv (f (st + k))
theorem dN_lt {f : Nat → Int32} {st : Nat} : ∀ k, (∀ j, j < k → dgB (f (st + j)) = true) → dN f st k < 10 ^ k := by
  intro k
  induction k with
  | zero => intro _; exact Nat.one_pos
  | succ k ih =>
    intro h
    have h1 := ih (fun j hj => h j (by omega))
    have h2 := (dgB_v (h k (by omega))).2
    simp only [dN, Nat.pow_succ]
    omega
/-! words -/
def mtB (f : Nat → Int32) (st L w : Nat) : Bool := (List.range 8).all (fun i => decide (rWORDS.getD (8 * w + i) 0 = if i < L then f (st + i) else 32))
theorem mtB_iff {f : Nat → Int32} {st L w : Nat} : mtB f st L w = true ↔ ∀ i, i < 8 → rWORDS.getD (8 * w + i) 0 = if i < L then f (st + i) else 32 := by
  unfold mtB
  rw [List.all_eq_true]
  constructor
  · intro h i hi
    exact of_decide_eq_true (h i (List.mem_range.mpr hi))
  · intro h i hi
    exact decide_eq_true (h i (List.mem_range.mp hi))
def wnum (f : Nat → Int32) (st L : Nat) : Nat := seek (mtB f st L) 14 0
def wT (w : Nat) : Nat × Nat := if w < 6 then (4, w) else if w = 6 then (5, 0) else if w = 7 then (10, 0) else if w = 8 then (9, 0) else if w < 14 then (3, w - 9) else (1, 0)
/-! signs -/
def sgS (c : Int32) (eq : Bool) : Nat := if c = 59 then 6 else if c = 43 then 15 else if c = 45 then 16 else if c = 42 then 17 else if c = 40 then 8 else if c = 41 then 7 else if c = 60 then (if eq then 14 else 13) else if c = 61 then (if eq then 11 else 1) else if c = 33 then (if eq then 12 else 1) else 1
def sgL (s : Nat) : Nat := if s = 14 ∨ s = 11 ∨ s = 12 then 2 else 1
def eqN (f : Nat → Int32) (n st : Nat) : Bool := decide (st + 1 < n) && decide (f (st + 1) = 61)
/-! a token: sort, value, where it ends -/
def eL (f : Nat → Int32) (n st : Nat) : Nat := seek (fun j => !ltB (f j)) (n - st) st
def eD (f : Nat → Int32) (n st : Nat) : Nat := seek (fun j => !dgB (f j)) (n - st) st
def wIx (f : Nat → Int32) (n st : Nat) : Nat := if eL f n st - st ≤ 8 then wnum f st (eL f n st - st) else 14
def tkA (f : Nat → Int32) (n st : Nat) : Nat × Nat × Nat :=
  if st < n then (if ltB (f st) then ((wT (wIx f n st)).1, (wT (wIx f n st)).2, eL f n st)
    else if dgB (f st) then (if eD f n st - st ≤ 4 then (2, dN f st (eD f n st - st), eD f n st) else (1, 0, eD f n st))
    else (sgS (f st) (eqN f n st), 0, st + sgL (sgS (f st) (eqN f n st)))) else (0, 0, st)
def tkS (f : Nat → Int32) (n i : Nat) : Nat := seek (fun j => !blB (f j)) (n - i) i
section SCAN
variable {γ : rG} {l : Launch} {sh : Nat × (Nat → Nat) × (Nat → Nat)} {I : Nat → Nat → Int32} {J : Nat → Nat → Int64} {R : Nat → Nat → Option Nat} {a n : Nat} {f : Nat → Int32}
theorem ct_isBlank (x : Int32) : rMet γ l m_X6_isBlank [.int x] (sh, I, J, R) (sh, I, J, R) (some (.int (nz (blB x)))) := by
  refine e_X6_isBlank (rW_pure (w_X6_isBlank_0 ⟨fun h => ⟨rfl, ?_⟩, fun h => ⟨fun h2 => ⟨rfl, ?_⟩, fun h2 => ⟨fun h3 => ⟨rfl, ?_⟩, fun h3 => ⟨fun h4 => ⟨rfl, ?_⟩, fun h4 => ⟨rfl, ?_⟩⟩⟩⟩⟩)) <;> simp [blB, nz, *]
theorem ct_isLetterC (x : Int32) : rMet γ l m_X6_isLetter [.int x] (sh, I, J, R) (sh, I, J, R) (some (.int (nz (ltB x)))) := by
  refine e_X6_isLetter (rW_pure (w_X6_isLetter_0 ⟨fun h => ⟨rfl, ?_⟩, fun h => ⟨fun h2 => ⟨rfl, ?_⟩, fun h2 => ⟨rfl, ?_⟩⟩⟩)) <;> simp [ltB, nz, h, *]
theorem ct_isDigitC (x : Int32) : rMet γ l m_X6_isDigit [.int x] (sh, I, J, R) (sh, I, J, R) (some (.int (nz (dgB x)))) := by
  refine e_X6_isDigit (rW_pure (w_X6_isDigit_0 ⟨fun h => ⟨rfl, ?_⟩, fun h => ⟨fun h2 => ⟨rfl, ?_⟩, fun h2 => ⟨rfl, ?_⟩⟩⟩)) <;> simp [dgB, nz, h, *]
/-- the text on the class's tape -/
def TxC (I : Nat → Nat → Int32) (a n : Nat) (f : Nat → Int32) : Prop := n ≤ 2000 ∧ I a 1 = nI n ∧ ∀ j, j < n → I (a + 1) j = f j
theorem TxC.sm {I' : Nat → Nat → Int32} (h : TxC I a n f) (hq : Sm (fun b j => b = a ∧ 2 ≤ j ∧ j ≤ 5) I I') : TxC I' a n f :=
  ⟨h.1, (hq _ _ (by omega)).trans h.2.1, fun j hj => (hq _ _ (by omega)).trans (h.2.2 j hj)⟩
abbrev Fk (a : Nat) : Nat → Nat → Prop := fun b j => b = a ∧ 2 ≤ j ∧ j ≤ 5
theorem scan_skip {Q : rHeap → Option Value → Prop} {e : Nat} (hA : At6 sh R a) (hT : TxC I a n f) (hQ : ∀ I', I' a 2 = nI e → Sm (Fk a) I I' → s_X6_scan_39 γ l a (sh, I', J, R) Q) : ∀ (d i : Nat) (I1 : Nat → Nat → Int32), i + d = n → I1 a 2 = nI i → Sm (Fk a) I I1 → seek (fun j => !blB (f j)) d i = e → s_X6_scan_0 γ l a (sh, I1, J, R) Q := by
  have hn := hT.1
  intro d
  induction d with
  | zero =>
    intro i I1 hi h2 hS he
    have hT1 := hT.sm hS
    refine w_X6_scan_0 hA ⟨fun _ => hQ I1 (by rw [h2, ← he]; rfl) hS, fun z => absurd (by rw [h2, hT1.2.1]; exact nI_le (by omega) (by omega)) z⟩
  | succ d ih =>
    intro i I1 hi h2 hS he
    have hT1 := hT.sm hS
    refine w_X6_scan_0 hA ⟨fun z => absurd z (by rw [h2, hT1.2.1]; exact nI_ge (by omega) (by omega)), fun _ => ⟨by rw [h2]; exact vp_in_nI (by omega) (by decide), _, ct_isBlank _, ?_⟩⟩
    rw [h2, nI_clamp (by omega), hT1.2.2 i (by omega)]
    by_cases hb : blB (f i) = true
    · rw [hb]
      refine ⟨fun z => absurd z (by decide), fun _ => ih (i + 1) _ (by omega) (by rw [up_at, if_pos ⟨rfl, rfl⟩, nI_1]) (hS.up ⟨rfl, by decide, by decide⟩) ?_⟩
      rw [← he]
      simp [seek, hb]
    · have hb' : blB (f i) = false := by simpa using hb
      rw [hb']
      refine ⟨fun _ => hQ I1 ?_ hS, fun z => absurd rfl z⟩
      rw [h2, ← he]
      simp [seek, hb']
theorem word_skip {Q : rHeap → Option Value → Prop} {e : Nat} (hA : At6 sh R a) (hT : TxC I a n f) (hQ : ∀ I', I' a 2 = nI e → Sm (fun b j => b = a ∧ j = 2) I I' → s_X6_scanWord_39 γ l a (sh, I', J, R) Q) : ∀ (d i : Nat) (I1 : Nat → Nat → Int32), i + d = n → I1 a 2 = nI i → Sm (fun b j => b = a ∧ j = 2) I I1 → seek (fun j => !ltB (f j)) d i = e → s_X6_scanWord_0 γ l a (sh, I1, J, R) Q := by
  have hn := hT.1
  intro d
  induction d with
  | zero =>
    intro i I1 hi h2 hS he
    have hT1 := hT.sm (hS.mono (fun b j h => ⟨h.1, by omega, by omega⟩))
    refine w_X6_scanWord_0 hA ⟨fun _ => hQ I1 (by rw [h2, ← he]; rfl) hS, fun z => absurd (by rw [h2, hT1.2.1]; exact nI_le (by omega) (by omega)) z⟩
  | succ d ih =>
    intro i I1 hi h2 hS he
    have hT1 := hT.sm (hS.mono (fun b j h => ⟨h.1, by omega, by omega⟩))
    refine w_X6_scanWord_0 hA ⟨fun z => absurd z (by rw [h2, hT1.2.1]; exact nI_ge (by omega) (by omega)), fun _ => ⟨by rw [h2]; exact vp_in_nI (by omega) (by decide), _, ct_isLetterC _, ?_⟩⟩
    rw [h2, nI_clamp (by omega), hT1.2.2 i (by omega)]
    by_cases hb : ltB (f i) = true
    · rw [hb]
      refine ⟨fun z => absurd z (by decide), fun _ => ih (i + 1) _ (by omega) (by rw [up_at, if_pos ⟨rfl, rfl⟩, nI_1]) (hS.up ⟨rfl, rfl⟩) ?_⟩
      rw [← he]
      simp [seek, hb]
    · have hb' : ltB (f i) = false := by simpa using hb
      rw [hb']
      refine ⟨fun _ => hQ I1 ?_ hS, fun z => absurd rfl z⟩
      rw [h2, ← he]
      simp [seek, hb']
theorem chr_lt {x : Int32} (h : ltB x = true) : (x.toUInt32 % 65536).toInt32 = x := by
  obtain ⟨j, h1, h2, rfl⟩ := ltB_ex h
  have : ∀ j : Fin 27, ((nI (96 + j.val)).toUInt32 % 65536).toInt32 = nI (96 + j.val) := by decide +kernel
  exact this ⟨j, by omega⟩
theorem ct_isWord {st L w : Nat} (hA : At6 sh R a) (hT : TxC I a n f) (hst : st + L ≤ n) (h3 : I a 3 = nI st) (h2 : I a 2 = nI (st + L)) (hw : w < 14) (hl : ∀ i, i < L → ltB (f (st + i)) = true) : rMet γ l m_X6_isWord [.ref a, .int (nI w)] (sh, I, J, R) (sh, I, J, R) (some (.int (nz (mtB f st L w)))) := by
  have hn := hT.1
  have key : ∀ d i, i + d = 8 → (∀ j, j < i → rWORDS.getD (8 * w + j) 0 = if j < L then f (st + j) else 32) → s_X6_isWord_2 γ l a (nI w) (nI i) (sh, I, J, R) (fun hf r => hf = (sh, I, J, R) ∧ r = some (.int (nz (mtB f st L w)))) := by
    intro d
    induction d with
    | zero =>
      intro i hi hj
      have : i = 8 := by omega
      subst this
      refine w_X6_isWord_2 hA ⟨fun _ => ⟨rfl, ?_⟩, fun z => absurd (nI_le (Nat.le_refl 8) (by decide)) z⟩
      rw [mtB_iff.mpr hj]; rfl
    | succ d ih =>
      intro i hi hj
      have e8 : (8 : Int32) * nI w + nI i = nI (8 * w + i) := by
        rw [← nI_add]; congr 1
        exact (Int32.ofNat_mul 8 w).symm
      have ok : (rWORDS.getD (8 * w + i) 0 = if i < L then f (st + i) else 32) → s_X6_isWord_2 γ l a (nI w) (nI i + 1) (sh, I, J, R) (fun hf r => hf = (sh, I, J, R) ∧ r = some (.int (nz (mtB f st L w)))) := by
        intro hq
        rw [nI_1]
        refine ih (i + 1) (by omega) (fun j hj' => ?_)
        by_cases e : j = i
        · rw [e]; exact hq
        · exact hj j (by omega)
      have no : ¬ (rWORDS.getD (8 * w + i) 0 = if i < L then f (st + i) else 32) → ((sh, I, J, R) : rHeap) = (sh, I, J, R) ∧ (some (.int 0) : Option Value) = some (.int (nz (mtB f st L w))) := by
        intro hq
        have : mtB f st L w = false := by
          by_cases h : mtB f st L w = true
          · exact absurd (mtB_iff.mp h i (by omega)) hq
          · simpa using h
        rw [this]; exact ⟨rfl, rfl⟩
      refine w_X6_isWord_2 hA ⟨fun z => absurd z (nI_ge (show i < 8 by omega) (by decide)), fun _ => ⟨_, ct_charAt (by rw [e8]; exact vp_in_nI (by omega) (by decide)), ?_⟩⟩
      rw [e8, nI_clamp (by omega), h2, h3, nI_add, nI_clamp (by omega)]
      refine ⟨fun hle => ?_, fun hle => ?_⟩
      · rw [nI_leI (by omega) (by omega)] at hle
        rw [if_neg (show ¬ i < L by omega)] at ok no
        exact ⟨ok, no⟩
      · rw [nI_leI (by omega) (by omega)] at hle
        rw [if_pos (show i < L by omega)] at ok no
        rw [hT.2.2 (st + i) (by omega), chr_lt (hl i (by omega))]
        exact ⟨vp_in_nI (by omega) (by decide), ok, no⟩
  exact e_X6_isWord (rW_pure (w_X6_isWord_0 hA (key 8 0 rfl (fun j hj => absurd hj (by omega)))))
theorem ct_wordNumber {st L : Nat} (hA : At6 sh R a) (hT : TxC I a n f) (hst : st + L ≤ n) (h3 : I a 3 = nI st) (h2 : I a 2 = nI (st + L)) (hl : ∀ i, i < L → ltB (f (st + i)) = true) : rMet γ l m_X6_wordNumber [.ref a] (sh, I, J, R) (sh, I, J, R) (some (.int (if wnum f st L < 14 then nI (wnum f st L) else -1))) := by
  have key : ∀ d i, i + d = 14 → seek (mtB f st L) d i = wnum f st L → s_X6_wordNumber_2 γ l a (nI i) (sh, I, J, R) (fun hf r => hf = (sh, I, J, R) ∧ r = some (.int (if wnum f st L < 14 then nI (wnum f st L) else -1))) := by
    intro d
    induction d with
    | zero =>
      intro i hi hs
      have : i = 14 := by omega
      subst this
      have hs : 14 = wnum f st L := hs
      refine w_X6_wordNumber_2 hA ⟨fun _ => ⟨rfl, ?_⟩, fun z => absurd (nI_le (Nat.le_refl 14) (by decide)) z⟩
      rw [← hs, if_neg (by decide)]
    | succ d ih =>
      intro i hi hs
      refine w_X6_wordNumber_2 hA ⟨fun z => absurd z (nI_ge (show i < 14 by omega) (by decide)), fun _ => ⟨_, ct_isWord hA hT hst h3 h2 (show i < 14 by omega) hl, ?_⟩⟩
      by_cases hm : mtB f st L i = true
      · rw [hm]
        refine ⟨fun z => absurd z (by decide), fun _ => ⟨rfl, ?_⟩⟩
        have e : i = wnum f st L := by rw [← hs]; simp [seek, hm]
        rw [← e, if_pos (by omega)]
      · have hm' : mtB f st L i = false := by simpa using hm
        rw [hm']
        refine ⟨fun _ => ?_, fun z => absurd rfl z⟩
        rw [nI_1]
        exact ih (i + 1) (by omega) (by rw [← hs]; simp [seek, hm'])
  exact e_X6_wordNumber (rW_pure (w_X6_wordNumber_0 hA (key 14 0 rfl rfl)))
theorem ct_scanWord {st : Nat} (hA : At6 sh R a) (hT : TxC I a n f) (hst : st < n) (h3 : I a 3 = nI st) (h2 : I a 2 = nI st) (h5 : I a 5 = 0) : ∃ I', rMet γ l m_X6_scanWord [.ref a] (sh, I, J, R) (sh, I', J, R) none ∧ I' a 2 = nI (eL f n st) ∧ I' a 4 = nI (wT (wIx f n st)).1 ∧ I' a 5 = nI (wT (wIx f n st)).2 ∧ Sm (fun b j => b = a ∧ (j = 2 ∨ j = 4 ∨ j = 5)) I I' := by
  have hn := hT.1
  have hle := seek_le (fun j => !ltB (f j)) (n - st) st
  have he : eL f n st ≤ n := by unfold eL; omega
  have he2 : st ≤ eL f n st := by unfold eL; omega
  have hl : ∀ i, i < eL f n st - st → ltB (f (st + i)) = true := by
    intro i hi
    have := seek_no (fun j => !ltB (f j)) (n - st) st (st + i) (by omega) (by unfold eL at hi; omega)
    simpa using this
  obtain ⟨I', q1, q2⟩ := rW_ex (γ := γ) (l := l) (sh := sh) (J := J) (R := R) (r := none) (F := fun I' => I' a 2 = nI (eL f n st) ∧ I' a 4 = nI (wT (wIx f n st)).1 ∧ I' a 5 = nI (wT (wIx f n st)).2 ∧ Sm (fun b j => b = a ∧ (j = 2 ∨ j = 4 ∨ j = 5)) I I') (word_skip (J := J) hA hT (e := eL f n st) (fun I1 g2 gS => by
    have hT1 : TxC I1 a n f := hT.sm (gS.mono (fun b j h => ⟨h.1, by omega, by omega⟩))
    have g3 : I1 a 3 = nI st := (gS _ _ (by omega)).trans h3
    have g5 : I1 a 5 = 0 := (gS _ _ (by omega)).trans h5
    have gS' : Sm (fun b j => b = a ∧ (j = 2 ∨ j = 4 ∨ j = 5)) I I1 := gS.mono (fun b j h => ⟨h.1, Or.inl h.2⟩)
    have esub : I1 a 2 - I1 a 3 = nI (eL f n st - st) := by
      rw [g2, g3]
      have := nI_sub' st (eL f n st - st)
      rw [show st + (eL f n st - st) = eL f n st by omega] at this
      exact this
    have bad : wIx f n st = 14 → s_X6_scanWord_61 γ l a (-1) (sh, I1, J, R) (fun hf v => ∃ I', hf = (sh, I', J, R) ∧ v = none ∧ I' a 2 = nI (eL f n st) ∧ I' a 4 = nI (wT (wIx f n st)).1 ∧ I' a 5 = nI (wT (wIx f n st)).2 ∧ Sm (fun b j => b = a ∧ (j = 2 ∨ j = 4 ∨ j = 5)) I I') := by
      intro hw
      refine w_X6_scanWord_61 hA ⟨fun _ => ⟨_, rfl, rfl, ?_, ?_, ?_, gS'.up ⟨rfl, by omega⟩⟩, fun z => absurd rfl z⟩
      · rw [up_at, if_neg (by omega)]; exact g2
      · rw [up_at, if_pos ⟨rfl, rfl⟩, hw]; rfl
      · rw [up_at, if_neg (by omega), g5, hw]; rfl
    refine w_X6_scanWord_39 hA ⟨fun hq => ⟨_, ct_wordNumber (L := eL f n st - st) hA hT1 (by omega) g3 (by rw [g2]; congr 1; omega) hl, ?_⟩, fun hq => ?_⟩
    · rw [esub, show (8 : Int32) = nI 8 from rfl, nI_leI (by omega) (by decide)] at hq
      have ew : wIx f n st = wnum f st (eL f n st - st) := by unfold wIx; rw [if_pos hq]
      rw [← ew]
      have hw14 : wIx f n st ≤ 14 := by rw [ew]; have := (seek_le (mtB f st (eL f n st - st)) 14 0).2; unfold wnum; omega
      by_cases hw : wIx f n st < 14
      · rw [if_pos hw]
        generalize wIx f n st = w at hw ⊢
        refine w_X6_scanWord_61 hA ⟨fun z => absurd z (nI_ne1 (by omega)), fun _ => ⟨fun z6 => ⟨fun z9 => ?_, fun z9 => ⟨fun y6 => ?_, fun y6 => ⟨fun y7 => ?_, fun y7 => ?_⟩⟩⟩, fun z6 => ?_⟩⟩
        · rw [show (9 : Int32) = nI 9 from rfl, nI_leI (by decide) (by omega)] at z9
          have e : wT w = (3, w - 9) := by unfold wT; rw [if_neg (by omega), if_neg (by omega), if_neg (by omega), if_neg (by omega), if_pos (by omega)]
          rw [e]
          refine ⟨_, rfl, rfl, ?_, ?_, ?_, (gS'.up ⟨rfl, by omega⟩).up ⟨rfl, by omega⟩⟩
          · rw [up_at, if_neg (by omega), up_at, if_neg (by omega)]; exact g2
          · rw [up_at, if_neg (by omega), up_at, if_pos ⟨rfl, rfl⟩]; rfl
          · rw [up_at, if_pos ⟨rfl, rfl⟩]
            have := nI_sub' 9 (w - 9)
            rw [show 9 + (w - 9) = w by omega] at this
            exact this
        · have e6 : w = 6 := (nI_eq (by omega) (by decide)).mp y6
          subst e6
          refine ⟨_, rfl, rfl, ?_, ?_, ?_, gS'.up ⟨rfl, by omega⟩⟩
          · rw [up_at, if_neg (by omega)]; exact g2
          · rw [up_at, if_pos ⟨rfl, rfl⟩]; rfl
          · rw [up_at, if_neg (by omega), g5]; rfl
        · have e6 : w = 7 := (nI_eq (by omega) (by decide)).mp y7
          subst e6
          refine ⟨_, rfl, rfl, ?_, ?_, ?_, gS'.up ⟨rfl, by omega⟩⟩
          · rw [up_at, if_neg (by omega)]; exact g2
          · rw [up_at, if_pos ⟨rfl, rfl⟩]; rfl
          · rw [up_at, if_neg (by omega), g5]; rfl
        · rw [show (9 : Int32) = nI 9 from rfl, nI_leI (by decide) (by omega)] at z9
          rw [show (6 : Int32) = nI 6 from rfl, nI_leI (by decide) (by omega)] at z6
          have e6 : w = 8 := by
            have n6 : w ≠ 6 := fun z => y6 (by rw [z]; rfl)
            have n7 : w ≠ 7 := fun z => y7 (by rw [z]; rfl)
            omega
          subst e6
          refine ⟨_, rfl, rfl, ?_, ?_, ?_, gS'.up ⟨rfl, by omega⟩⟩
          · rw [up_at, if_neg (by omega)]; exact g2
          · rw [up_at, if_pos ⟨rfl, rfl⟩]; rfl
          · rw [up_at, if_neg (by omega), g5]; rfl
        · rw [show (6 : Int32) = nI 6 from rfl, nI_leI (by decide) (by omega)] at z6
          have e : wT w = (4, w) := by unfold wT; rw [if_pos (by omega)]
          rw [e]
          refine ⟨_, rfl, rfl, ?_, ?_, ?_, (gS'.up ⟨rfl, by omega⟩).up ⟨rfl, by omega⟩⟩
          · rw [up_at, if_neg (by omega), up_at, if_neg (by omega)]; exact g2
          · rw [up_at, if_neg (by omega), up_at, if_pos ⟨rfl, rfl⟩]; rfl
          · rw [up_at, if_pos ⟨rfl, rfl⟩]
      · rw [if_neg hw]
        exact bad (by omega)
    · rw [esub, show (8 : Int32) = nI 8 from rfl, nI_leI (by omega) (by decide)] at hq
      exact bad (by unfold wIx; rw [if_neg hq])) (n - st) st I (by omega) h2 Sm.rf rfl)
  exact ⟨I', e_X6_scanWord q1, q2⟩
theorem nI_mul10 (k j : Nat) : (10 : Int32) * nI k + nI j = nI (10 * k + j) := by
  rw [← nI_add]; congr 1
  exact (Int32.ofNat_mul 10 k).symm
theorem ct_scanNumber {st : Nat} (hA : At6 sh R a) (hT : TxC I a n f) (hst : st < n) (h3 : I a 3 = nI st) (h2 : I a 2 = nI st) (h5 : I a 5 = 0) : ∃ I', rMet γ l m_X6_scanNumber [.ref a] (sh, I, J, R) (sh, I', J, R) none ∧ I' a 2 = nI (eD f n st) ∧ I' a 4 = (if eD f n st - st ≤ 4 then 2 else 1) ∧ I' a 5 = nI (dN f st (eD f n st - st)) ∧ Sm (fun b j => b = a ∧ (j = 2 ∨ j = 4 ∨ j = 5)) I I' := by
  have hn := hT.1
  have key : ∀ (d k : Nat) (I1 : Nat → Nat → Int32), st + k + d = n → I1 a 2 = nI (st + k) → I1 a 5 = nI (dN f st k) → Sm (fun b j => b = a ∧ (j = 2 ∨ j = 4 ∨ j = 5)) I I1 → seek (fun j => !dgB (f j)) d (st + k) = eD f n st → s_X6_scanNumber_0 γ l a (sh, I1, J, R) (fun hf v => ∃ I', hf = (sh, I', J, R) ∧ v = none ∧ I' a 2 = nI (eD f n st) ∧ I' a 4 = (if eD f n st - st ≤ 4 then 2 else 1) ∧ I' a 5 = nI (dN f st (eD f n st - st)) ∧ Sm (fun b j => b = a ∧ (j = 2 ∨ j = 4 ∨ j = 5)) I I') := by
    have fin : ∀ (k : Nat) (I1 : Nat → Nat → Int32), st + k ≤ n → I1 a 2 = nI (st + k) → I1 a 5 = nI (dN f st k) → Sm (fun b j => b = a ∧ (j = 2 ∨ j = 4 ∨ j = 5)) I I1 → eD f n st = st + k → s_X6_scanNumber_63 γ l a (sh, I1, J, R) (fun hf v => ∃ I', hf = (sh, I', J, R) ∧ v = none ∧ I' a 2 = nI (eD f n st) ∧ I' a 4 = (if eD f n st - st ≤ 4 then 2 else 1) ∧ I' a 5 = nI (dN f st (eD f n st - st)) ∧ Sm (fun b j => b = a ∧ (j = 2 ∨ j = 4 ∨ j = 5)) I I') := by
      intro k I1 hk g2 g5 gS he
      have g3 : I1 a 3 = nI st := (gS _ _ (by omega)).trans h3
      have ek : eD f n st - st = k := by omega
      rw [he, Nat.add_sub_cancel_left]
      have go : ∀ s : Int32, s = (if k ≤ 4 then 2 else 1) → ∃ I', ((sh, up I1 a 4 s, J, R) : rHeap) = (sh, I', J, R) ∧ (none : Option Value) = none ∧ I' a 2 = nI (st + k) ∧ I' a 4 = (if k ≤ 4 then 2 else 1) ∧ I' a 5 = nI (dN f st k) ∧ Sm (fun b j => b = a ∧ (j = 2 ∨ j = 4 ∨ j = 5)) I I' := by
        intro s hs
        refine ⟨_, rfl, rfl, ?_, ?_, ?_, gS.up ⟨rfl, by omega⟩⟩
        · rw [up_at, if_neg (by omega)]; exact g2
        · rw [up_at, if_pos ⟨rfl, rfl⟩]; exact hs
        · rw [up_at, if_neg (by omega)]; exact g5
      refine w_X6_scanNumber_63 hA ⟨fun q => go _ ?_, fun q => go _ ?_⟩
      · rw [g2, g3, nI_sub', show (4 : Int32) = nI 4 from rfl, nI_leI (by omega) (by decide)] at q
        rw [if_pos q]
      · rw [g2, g3, nI_sub', show (4 : Int32) = nI 4 from rfl, nI_leI (by omega) (by decide)] at q
        rw [if_neg q]
    intro d
    induction d with
    | zero =>
      intro k I1 hk g2 g5 gS he
      have hT1 : TxC I1 a n f := hT.sm (gS.mono (fun b j h => ⟨h.1, by omega, by omega⟩))
      refine w_X6_scanNumber_0 hA ⟨fun _ => fin k I1 (by omega) g2 g5 gS he.symm, fun z => absurd (by rw [g2, hT1.2.1]; exact nI_le (by omega) (by omega)) z⟩
    | succ d ih =>
      intro k I1 hk g2 g5 gS he
      have hT1 : TxC I1 a n f := hT.sm (gS.mono (fun b j h => ⟨h.1, by omega, by omega⟩))
      refine w_X6_scanNumber_0 hA ⟨fun z => absurd z (by rw [g2, hT1.2.1]; exact nI_ge (by omega) (by omega)), fun _ => ⟨by rw [g2]; exact vp_in_nI (by omega) (by decide), _, ct_isDigitC _, ?_⟩⟩
      rw [g2, nI_clamp (by omega), hT1.2.2 (st + k) (by omega)]
      by_cases hb : dgB (f (st + k)) = true
      · rw [hb]
        refine ⟨fun z => absurd z (by decide), fun _ => ⟨vp_in_nI (by omega) (by decide), ih (k + 1) _ (by omega) ?_ ?_ ((gS.up ⟨rfl, by omega⟩).up ⟨rfl, by omega⟩) ?_⟩⟩
        · rw [up_at, if_pos ⟨rfl, rfl⟩, up_at, if_neg (by omega), g2, nI_1]; rfl
        · rw [up_at, if_neg (by omega), up_at, if_pos ⟨rfl, rfl⟩, g5, (dgB_v hb).1, nI_mul10]; rfl
        · rw [← he]
          simp [seek, hb, Nat.add_assoc]
      · have hb' : dgB (f (st + k)) = false := by simpa using hb
        rw [hb']
        refine ⟨fun _ => fin k I1 (by omega) g2 g5 gS ?_, fun z => absurd rfl z⟩
        rw [← he]
        simp [seek, hb']
  obtain ⟨I', q1, q2⟩ := rW_ex (key (n - st) 0 I (by omega) h2 h5 Sm.rf rfl)
  exact ⟨I', e_X6_scanNumber q1, q2⟩
theorem ct_scanSign {st : Nat} (hA : At6 sh R a) (hT : TxC I a n f) (hst : st < n) (h2 : I a 2 = nI st) (c : Int32) : ∃ I', rMet γ l m_X6_scanSign [.ref a, .int c] (sh, I, J, R) (sh, I', J, R) none ∧ I' a 2 = nI (st + sgL (sgS c (eqN f n st))) ∧ I' a 4 = nI (sgS c (eqN f n st)) ∧ Sm (fun b j => b = a ∧ (j = 2 ∨ j = 4)) I I' := by
  have hn := hT.1
  have e1 : up I a 2 (I a 2 + 1) a 2 = nI (st + 1) := by rw [up_at, if_pos ⟨rfl, rfl⟩, h2, nI_1]
  have e0 : up I a 2 (I a 2 + 1) a 1 = nI n := by rw [up_at, if_neg (by omega)]; exact hT.2.1
  have gS : Sm (fun b j => b = a ∧ (j = 2 ∨ j = 4)) I (up I a 2 (I a 2 + 1)) := Sm.rf.up ⟨rfl, Or.inl rfl⟩
  have key : ∀ b : Bool, s_X6_scanSign_40 γ l a c (nz b) (sh, up I a 2 (I a 2 + 1), J, R) (fun hf v => ∃ I', hf = (sh, I', J, R) ∧ v = none ∧ I' a 2 = nI (st + sgL (sgS c b)) ∧ I' a 4 = nI (sgS c b) ∧ Sm (fun b j => b = a ∧ (j = 2 ∨ j = 4)) I I') := by
    intro b
    have hs18 : sgS c b < 18 := by unfold sgS; repeat' split
                                   all_goals decide
    have fin : ∀ s : Int32, nI (sgS c b) = s → s_X6_scanSign_283 γ l a (sh, up (up I a 2 (I a 2 + 1)) a 4 s, J, R) (fun hf v => ∃ I', hf = (sh, I', J, R) ∧ v = none ∧ I' a 2 = nI (st + sgL (sgS c b)) ∧ I' a 4 = nI (sgS c b) ∧ Sm (fun b j => b = a ∧ (j = 2 ∨ j = 4)) I I') := by
      intro s hs
      have x4 : up (up I a 2 (I a 2 + 1)) a 4 s a 4 = nI (sgS c b) := by rw [up_at, if_pos ⟨rfl, rfl⟩, hs]
      have x2 : up (up I a 2 (I a 2 + 1)) a 4 s a 2 = nI (st + 1) := by rw [up_at, if_neg (by omega)]; exact e1
      have gS2 := gS.up (v := s) (show (fun b j => b = a ∧ (j = 2 ∨ j = 4)) a 4 from ⟨rfl, Or.inr rfl⟩)
      have two : (sgS c b = 14 ∨ sgS c b = 11 ∨ sgS c b = 12) → ∃ I', ((sh, up (up (up I a 2 (I a 2 + 1)) a 4 s) a 2 (up (up I a 2 (I a 2 + 1)) a 4 s a 2 + 1), J, R) : rHeap) = (sh, I', J, R) ∧ (none : Option Value) = none ∧ I' a 2 = nI (st + sgL (sgS c b)) ∧ I' a 4 = nI (sgS c b) ∧ Sm (fun b j => b = a ∧ (j = 2 ∨ j = 4)) I I' := by
        intro hq
        refine ⟨_, rfl, rfl, ?_, ?_, gS2.up ⟨rfl, Or.inl rfl⟩⟩
        · rw [up_at, if_pos ⟨rfl, rfl⟩, x2, nI_1]
          unfold sgL; rw [if_pos hq]
        · rw [up_at, if_neg (by omega)]; exact x4
      refine w_X6_scanSign_283 hA ⟨fun q => two ?_, fun q1 => ⟨fun q => two ?_, fun q2 => ⟨fun q => two ?_, fun q3 => ⟨_, rfl, rfl, ?_, x4, gS2⟩⟩⟩⟩
      · rw [x4] at q; exact Or.inl ((nI_eq (by omega) (by decide)).mp q)
      · rw [x4] at q; exact Or.inr (Or.inl ((nI_eq (by omega) (by decide)).mp q))
      · rw [x4] at q; exact Or.inr (Or.inr ((nI_eq (by omega) (by decide)).mp q))
      · rw [x2]
        unfold sgL
        rw [if_neg]
        rintro (z | z | z)
        · exact q1 (by rw [x4, z]; rfl)
        · exact q2 (by rw [x4, z]; rfl)
        · exact q3 (by rw [x4, z]; rfl)
    refine w_X6_scanSign_40 hA ?_
    cases b
    all_goals repeat' (first | refine And.intro ?_ ?_ | intro _)
    all_goals first
      | exact fin _ (by subst_vars; decide)
      | exact w_X6_scanSign_272 hA hA (fin _ (by subst_vars; decide))
      | exact w_X6_scanSign_238 hA hA (fin _ (by subst_vars; decide))
      | exact w_X6_scanSign_255 hA hA (fin _ (by subst_vars; decide))
      | exact absurd rfl (by assumption)
      | exact absurd (show nz true = 0 by assumption) (by decide)
      | exact fin _ (by simp [sgS, *]; rfl)
  obtain ⟨I', q1, q2⟩ := rW_ex (γ := γ) (l := l) (J := J) (R := R) (r := none) (F := fun I' => I' a 2 = nI (st + sgL (sgS c (eqN f n st))) ∧ I' a 4 = nI (sgS c (eqN f n st)) ∧ Sm (fun b j => b = a ∧ (j = 2 ∨ j = 4)) I I') (show s_X6_scanSign_0 γ l a c (sh, I, J, R) _ from by
    refine w_X6_scanSign_0 hA ⟨fun q => ?_, fun q => ?_⟩
    · rw [e0, e1, nI_leI (by omega) (by omega)] at q
      have e : eqN f n st = false := by unfold eqN; rw [decide_eq_false (by omega)]; rfl
      rw [e]
      exact w_X6_scanSign_39 hA (key false)
    · rw [e0, e1, nI_leI (by omega) (by omega)] at q
      rw [e1, nI_clamp (by omega)]
      have ef : up I a 2 (I a 2 + 1) (a + 1) (st + 1) = f (st + 1) := by rw [up_at, if_neg (by omega)]; exact hT.2.2 _ (by omega)
      rw [ef]
      refine ⟨vp_in_nI (by omega) (by decide), fun z => ?_, fun z => ?_⟩
      · have e : eqN f n st = true := by unfold eqN; rw [decide_eq_true (by omega), decide_eq_true z]; rfl
        rw [e]
        exact key true
      · have e : eqN f n st = false := by unfold eqN; rw [decide_eq_false z, Bool.and_false]
        rw [e]
        exact w_X6_scanSign_39 hA (key false))
  exact ⟨I', e_X6_scanSign q1, q2⟩
end SCAN
