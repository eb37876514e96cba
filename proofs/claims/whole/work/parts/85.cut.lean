/-! ===== the text cut into tokens: the class's scan; the model's cut ===== -/
def TkC (I : Nat → Nat → Int32) (a st : Nat) (t : Nat × Nat × Nat) : Prop := I a 2 = nI t.2.2 ∧ I a 3 = nI st ∧ I a 4 = nI t.1 ∧ (t.1 = 1 ∨ I a 5 = nI t.2.1)
section CUT1
variable {γ : rG} {l : Launch} {sh : Nat × (Nat → Nat) × (Nat → Nat)} {I : Nat → Nat → Int32} {J : Nat → Nat → Int64} {R : Nat → Nat → Option Nat} {a n : Nat} {f : Nat → Int32}
theorem ct_scan {i : Nat} (hA : At6 sh R a) (hT : TxC I a n f) (hi : i ≤ n) (h2 : I a 2 = nI i) : ∃ I', rMet γ l m_X6_scan [.ref a] (sh, I, J, R) (sh, I', J, R) none ∧ TkC I' a (tkS f n i) (tkA f n (tkS f n i)) ∧ Sm (Fk a) I I' := by
  have hn := hT.1
  have hle := seek_le (fun j => !blB (f j)) (n - i) i
  have hs : tkS f n i ≤ n := by unfold tkS; omega
  obtain ⟨I', q1, q2⟩ := rW_ex (γ := γ) (l := l) (sh := sh) (J := J) (R := R) (r := none) (F := fun I' => TkC I' a (tkS f n i) (tkA f n (tkS f n i)) ∧ Sm (Fk a) I I') (scan_skip (J := J) hA hT (e := tkS f n i) (fun I1 g2 gS => by
    generalize tkS f n i = st at g2 hs ⊢
    have gS2 : Sm (Fk a) I (up (up I1 a 3 (I1 a 2)) a 5 0) := (gS.up ⟨rfl, by decide, by decide⟩).up ⟨rfl, by decide, by decide⟩
    have x2 : up (up I1 a 3 (I1 a 2)) a 5 0 a 2 = nI st := by rw [up_at, if_neg (by omega), up_at, if_neg (by omega)]; exact g2
    have x3 : up (up I1 a 3 (I1 a 2)) a 5 0 a 3 = nI st := by rw [up_at, if_neg (by omega), up_at, if_pos ⟨rfl, rfl⟩]; exact g2
    have x5 : up (up I1 a 3 (I1 a 2)) a 5 0 a 5 = 0 := by rw [up_at, if_pos ⟨rfl, rfl⟩]
    refine w_X6_scan_39 hA ?_
    generalize up (up I1 a 3 (I1 a 2)) a 5 0 = I2 at gS2 x2 x3 x5 ⊢
    have hT2 := hT.sm gS2
    have hmono : ∀ {I3}, Sm (fun b j => b = a ∧ (j = 2 ∨ j = 4 ∨ j = 5)) I2 I3 → Sm (Fk a) I I3 := fun h => gS2.tr (h.mono (fun b j q => ⟨q.1, by omega, by omega⟩))
    refine ⟨fun hq => ?_, fun hq => ?_⟩
    · rw [x2, hT2.2.1, nI_ltI (by omega) (by omega)] at hq
      rw [x2, nI_clamp (by omega), hT2.2.2 st hq]
      refine ⟨vp_in_nI (by omega) (by decide), _, ct_isLetterC _, fun z => ⟨vp_in_nI (by omega) (by decide), _, ct_isDigitC _, fun z2 => ⟨vp_in_nI (by omega) (by decide), ?_⟩, fun z2 => ?_⟩, fun z => ?_⟩
      · have hl : ltB (f st) = false := by revert z; cases ltB (f st) <;> simp [nz]
        have hd : dgB (f st) = false := by revert z2; cases dgB (f st) <;> simp [nz]
        obtain ⟨I3, d1, d2, d3, d4⟩ := ct_scanSign (γ := γ) (l := l) (J := J) (st := st) hA hT2 hq x2 (f st)
        have et : tkA f n st = (sgS (f st) (eqN f n st), 0, st + sgL (sgS (f st) (eqN f n st))) := by unfold tkA; rw [if_pos hq, hl, hd]; rfl
        rw [et]
        exact ⟨I3, d1, I3, rfl, rfl, ⟨d2, (d4 _ _ (by omega)).trans x3, d3, Or.inr ((d4 _ _ (by omega)).trans x5)⟩, hmono (d4.mono (fun b j q => ⟨q.1, by omega⟩))⟩
      · have hl : ltB (f st) = false := by revert z; cases ltB (f st) <;> simp [nz]
        have hd : dgB (f st) = true := by revert z2; cases dgB (f st) <;> simp [nz]
        obtain ⟨I3, d1, d2, d3, d4, d5⟩ := ct_scanNumber (γ := γ) (l := l) (J := J) (st := st) hA hT2 hq x3 x2 x5
        refine ⟨I3, d1, I3, rfl, rfl, ?_, hmono d5⟩
        unfold tkA
        rw [if_pos hq, hl, hd]
        simp only [Bool.false_eq_true, if_false, if_true]
        by_cases h4 : eD f n st - st ≤ 4
        · rw [if_pos h4]; rw [if_pos h4] at d3
          exact ⟨d2, (d5 _ _ (by omega)).trans x3, d3, Or.inr d4⟩
        · rw [if_neg h4]; rw [if_neg h4] at d3
          exact ⟨d2, (d5 _ _ (by omega)).trans x3, d3, Or.inl rfl⟩
      · have hl : ltB (f st) = true := by revert z; cases ltB (f st) <;> simp [nz]
        obtain ⟨I3, d1, d2, d3, d4, d5⟩ := ct_scanWord (γ := γ) (l := l) (J := J) (st := st) hA hT2 hq x3 x2 x5
        refine ⟨I3, d1, I3, rfl, rfl, ?_, hmono d5⟩
        unfold tkA
        rw [if_pos hq, hl]
        exact ⟨d2, (d5 _ _ (by omega)).trans x3, d3, Or.inr d4⟩
    · rw [x2, hT2.2.1, nI_ltI (by omega) (by omega)] at hq
      have et : tkA f n st = (0, 0, st) := by unfold tkA; rw [if_neg hq]
      rw [et]
      refine ⟨_, rfl, rfl, ⟨?_, ?_, ?_, Or.inr ?_⟩, gS2.up ⟨rfl, by decide, by decide⟩⟩
      · rw [up_at, if_neg (by omega)]; exact x2
      · rw [up_at, if_neg (by omega)]; exact x3
      · rw [up_at, if_pos ⟨rfl, rfl⟩]; rfl
      · rw [up_at, if_neg (by omega)]; exact x5) (n - i) i I (by omega) h2 Sm.rf rfl)
  exact ⟨I', e_X6_scan q1, q2⟩
end CUT1
/-! the bytes as the model reads them -/
theorem ub_z : ∀ z : Int8, ltB (z.toInt32 &&& 255) = ltB z.toInt32 ∧ dgB (z.toInt32 &&& 255) = dgB z.toInt32 ∧ blB (z.toInt32 &&& 255) = blB z.toInt32 ∧ sgS (z.toInt32 &&& 255) true = sgS z.toInt32 true ∧ sgS (z.toInt32 &&& 255) false = sgS z.toInt32 false ∧ decide (z.toInt32 &&& 255 = 61) = decide (z.toInt32 = 61) ∧ (ltB z.toInt32 = true → z.toInt32 &&& 255 = z.toInt32) ∧ (dgB z.toInt32 = true → z.toInt32 &&& 255 = z.toInt32) := by
  have : ∀ k : Fin (2 ^ 8), ltB ((Int8.ofUInt8 ⟨⟨k⟩⟩).toInt32 &&& 255) = ltB (Int8.ofUInt8 ⟨⟨k⟩⟩).toInt32 ∧ dgB ((Int8.ofUInt8 ⟨⟨k⟩⟩).toInt32 &&& 255) = dgB (Int8.ofUInt8 ⟨⟨k⟩⟩).toInt32 ∧ blB ((Int8.ofUInt8 ⟨⟨k⟩⟩).toInt32 &&& 255) = blB (Int8.ofUInt8 ⟨⟨k⟩⟩).toInt32 ∧ sgS ((Int8.ofUInt8 ⟨⟨k⟩⟩).toInt32 &&& 255) true = sgS (Int8.ofUInt8 ⟨⟨k⟩⟩).toInt32 true ∧ sgS ((Int8.ofUInt8 ⟨⟨k⟩⟩).toInt32 &&& 255) false = sgS (Int8.ofUInt8 ⟨⟨k⟩⟩).toInt32 false ∧ decide ((Int8.ofUInt8 ⟨⟨k⟩⟩).toInt32 &&& 255 = 61) = decide ((Int8.ofUInt8 ⟨⟨k⟩⟩).toInt32 = 61) ∧ (ltB (Int8.ofUInt8 ⟨⟨k⟩⟩).toInt32 = true → (Int8.ofUInt8 ⟨⟨k⟩⟩).toInt32 &&& 255 = (Int8.ofUInt8 ⟨⟨k⟩⟩).toInt32) ∧ (dgB (Int8.ofUInt8 ⟨⟨k⟩⟩).toInt32 = true → (Int8.ofUInt8 ⟨⟨k⟩⟩).toInt32 &&& 255 = (Int8.ofUInt8 ⟨⟨k⟩⟩).toInt32) := by decide +kernel
  intro z
  obtain ⟨⟨⟨k⟩⟩⟩ := z
  exact this k
theorem ub_all {y : Int32} (hy : y.toInt8.toInt32 = y) : ltB (y &&& 255) = ltB y ∧ dgB (y &&& 255) = dgB y ∧ blB (y &&& 255) = blB y ∧ (∀ b, sgS (y &&& 255) b = sgS y b) ∧ decide (y &&& 255 = 61) = decide (y = 61) ∧ (ltB y = true → y &&& 255 = y) ∧ (dgB y = true → y &&& 255 = y) := by
  have h := ub_z y.toInt8
  rw [hy] at h
  exact ⟨h.1, h.2.1, h.2.2.1, fun b => by cases b; exact h.2.2.2.2.1; exact h.2.2.2.1, h.2.2.2.2.2.1, h.2.2.2.2.2.2.1, h.2.2.2.2.2.2.2⟩
def ubA (f : Nat → Int32) (n i : Nat) : Int32 := if i < n then f i &&& 255 else 0
def ByM (f : Nat → Int32) (n : Nat) : Prop := ∀ j, j < n → (f j).toInt8.toInt32 = f j
theorem ubA_lt {f : Nat → Int32} {n i : Nat} (hB : ByM f n) : ltB (ubA f n i) = (decide (i < n) && ltB (f i)) := by
  unfold ubA
  by_cases h : i < n
  · rw [if_pos h, (ub_all (hB i h)).1, decide_eq_true h]; rfl
  · rw [if_neg h, decide_eq_false h]; rfl
theorem ubA_dg {f : Nat → Int32} {n i : Nat} (hB : ByM f n) : dgB (ubA f n i) = (decide (i < n) && dgB (f i)) := by
  unfold ubA
  by_cases h : i < n
  · rw [if_pos h, (ub_all (hB i h)).2.1, decide_eq_true h]; rfl
  · rw [if_neg h, decide_eq_false h]; rfl
theorem ubA_eq {f : Nat → Int32} {n i : Nat} (hB : ByM f n) : decide (ubA f n (i + 1) = 61) = eqN f n i := by
  unfold ubA eqN
  by_cases h : i + 1 < n
  · rw [if_pos h, (ub_all (hB _ h)).2.2.2.2.1, decide_eq_true h]; rfl
  · rw [if_neg h, decide_eq_false h]; rfl
/-! names as numbers -/
def nm (f : Nat → Int32) (st : Nat) : Nat → Nat
  | 0 => 0
  | k + 1 => 27 * nm f st k + ltv (f (st + k))
theorem nm_lt {f : Nat → Int32} {st : Nat} : ∀ k, (∀ j, j < k → ltB (f (st + j)) = true) → nm f st k < 27 ^ k := by
  intro k
  induction k with
  | zero => intro _; exact Nat.one_pos
  | succ k ih =>
    intro h
    have h1 := ih (fun j hj => h j (by omega))
    have h2 := (ltB_v (h k (by omega))).2
    simp only [nm, Nat.pow_succ]
    omega
theorem nm_inj {f g : Nat → Int32} {s t : Nat} : ∀ K L, (∀ j, j < K → ltB (f (s + j)) = true) → (∀ j, j < L → ltB (g (t + j)) = true) → nm f s K = nm g t L → K = L ∧ ∀ j, j < K → f (s + j) = g (t + j) := by
  intro K
  induction K with
  | zero =>
    intro L _ hg he
    cases L with
    | zero => exact ⟨rfl, fun j hj => absurd hj (by omega)⟩
    | succ L =>
      have := (ltB_v (hg L (by omega))).2
      simp only [nm] at he
      omega
  | succ K ih =>
    intro L hf hg he
    have h1 := ltB_v (hf K (by omega))
    cases L with
    | zero => simp only [nm] at he; omega
    | succ L =>
      have h2 := ltB_v (hg L (by omega))
      simp only [nm] at he
      have e1 : ltv (f (s + K)) = ltv (g (t + L)) := by omega
      have e2 : nm f s K = nm g t L := by omega
      obtain ⟨q1, q2⟩ := ih L (fun j hj => hf j (by omega)) (fun j hj => hg j (by omega)) e2
      refine ⟨by omega, fun j hj => ?_⟩
      by_cases e : j = K
      · rw [e, h1.1, e1]
        have h3 := h2.1
        rw [q1]
        exact h3.symm
      · exact q2 j (by omega)
theorem nm_congr {f g : Nat → Int32} {s t : Nat} : ∀ K, (∀ j, j < K → f (s + j) = g (t + j)) → nm f s K = nm g t K := by
  intro K
  induction K with
  | zero => intro _; rfl
  | succ K ih =>
    intro h
    simp only [nm]
    rw [ih (fun j hj => h j (by omega)), h K (by omega)]
def wl (w : Nat) : Nat := seek (fun j => decide (rWORDS.getD (8 * w + j) 0 = 32)) 8 0
def kw (k : Nat) : Nat := [0, 6, 1, 2, 3, 4, 5, 8, 7, 9, 10, 11, 12, 13].getD k 0
def keyN (k : Nat) : Nat := nm (fun j => rWORDS.getD j 0) (8 * kw k) (wl (kw k))
theorem wl_ok : ∀ w : Fin 14, wl w.val ≤ 6 ∧ ∀ j : Fin 8, (j.val < wl w.val → ltB (rWORDS.getD (8 * w.val + j.val) 0) = true) ∧ (wl w.val ≤ j.val → rWORDS.getD (8 * w.val + j.val) 0 = 32) := by decide +kernel
theorem kw_lt : ∀ k : Fin 14, kw k.val < 14 := by decide +kernel
theorem word_1 : ∀ w v : Fin 14, (∀ j : Fin 8, rWORDS.getD (8 * w.val + j.val) 0 = rWORDS.getD (8 * v.val + j.val) 0) → w = v := by decide +kernel
theorem mtB_one {f : Nat → Int32} {st L w v : Nat} (hw : w < 14) (hv : v < 14) (h1 : mtB f st L w = true) (h2 : mtB f st L v = true) : w = v := by
  have := word_1 ⟨w, hw⟩ ⟨v, hv⟩ (fun j => (mtB_iff.mp h1 j.val j.isLt).trans (mtB_iff.mp h2 j.val j.isLt).symm)
  exact congrArg Fin.val this
theorem mtB_nm {f : Nat → Int32} {st L k : Nat} (hL : L ≤ 7) (hk : k < 14) (hl : ∀ j, j < L → ltB (f (st + j)) = true) : mtB f st L (kw k) = true ↔ keyN k = nm f st L := by
  have hw := kw_lt ⟨k, hk⟩
  obtain ⟨w1, w2⟩ := wl_ok ⟨kw k, hw⟩
  simp only at w1 w2 hw
  have n32 : ltB 32 = false := by decide
  constructor
  · intro h
    have hm := mtB_iff.mp h
    have eL : wl (kw k) = L := by
      rcases Nat.lt_trichotomy L (wl (kw k)) with q | q | q
      · have a1 := (w2 ⟨L, by omega⟩).1 q
        have a2 := hm L (by omega)
        rw [if_neg (by omega)] at a2
        simp only at a1
        rw [a2, n32] at a1
        exact absurd a1 (by decide)
      · exact q.symm
      · have a1 := (w2 ⟨wl (kw k), by omega⟩).2 (Nat.le_refl _)
        have a2 := hm (wl (kw k)) (by omega)
        rw [if_pos q] at a2
        simp only at a1
        have a3 := hl _ q
        rw [← a2, a1, n32] at a3
        exact absurd a3 (by decide)
    unfold keyN
    rw [eL]
    exact nm_congr L (fun j hj => by have := hm j (by omega); rw [if_pos hj] at this; exact this)
  · intro h
    unfold keyN at h
    have hW : ∀ j, j < wl (kw k) → ltB (rWORDS.getD (8 * kw k + j) 0) = true := fun j hj => (w2 ⟨j, by omega⟩).1 hj
    obtain ⟨q1, q2⟩ := nm_inj (f := fun j => rWORDS.getD j 0) (g := f) (s := 8 * kw k) (t := st) (wl (kw k)) L hW hl h
    refine mtB_iff.mpr (fun i hi => ?_)
    by_cases hq : i < L
    · rw [if_pos hq]; exact q2 i (by omega)
    · rw [if_neg hq]; exact (w2 ⟨i, hi⟩).2 (by simp only; omega)
theorem lN_inj {a b : Nat} (ha : a < 2 ^ 63) (hb : b < 2 ^ 63) (h : lN a = lN b) : a = b := by
  have := congrArg (fun z : Int64 => z.toBitVec.toNat) h
  simp [lN] at this
  omega
/-! kinds -/
def kOf (s v : Nat) : Nat := if s = 0 then 0 else if s = 2 then 2 else if s = 3 then 29 + v else if s = 4 then (if v = 0 then 20 else 21 + v) else if s = 5 then 21 else if s = 6 then 4 else if s = 7 then 7 else if s = 8 then 6 else if s = 9 then 27 else if s = 10 then 28 else if s ≤ 14 then s else if s = 15 then 8 else if s = 16 then 9 else 10
def KR (kd s v : Nat) : Prop := (s = 1 ∧ (kd = 1 ∨ kd = 3)) ∨ (s ≠ 1 ∧ kd = kOf s v)
theorem KR_w : ∀ k : Fin 14, 20 + k.val = kOf (wT (kw k.val)).1 (wT (kw k.val)).2 ∧ (wT (kw k.val)).1 ≠ 1 := by decide +kernel
theorem kw_onto : ∀ w : Fin 14, ∃ k : Fin 14, kw k.val = w.val := by decide +kernel
