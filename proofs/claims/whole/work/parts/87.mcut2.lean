/-! ===== the model's cut: words, numbers, the whole loop ===== -/
section MCUT2
variable {γ : rG} {l : Launch} {sh : Nat × (Nat → Nat) × (Nat → Nat)} {I : Nat → Nat → Int32} {J : Nat → Nat → Int64} {R : Nat → Nat → Option Nat} {m n : Nat} {f : Nat → Int32}
/-- the words' numbers gone through -/
theorem cut_keys {Q : rHeap → Option Value → Prop} {i L : Nat} (hA : At9 sh R m) (hK : KeysM J m) (hL : L ≤ 7) (hl : ∀ j, j < L → ltB (f (i + j)) = true) (x1 x3 : Int32)
    (hQ : ∀ kd, KR kd (wT (wnum f i L)).1 (wT (wnum f i L)).2 → ∃ I2 J2, rMet γ l m_X9_tokenIs [.ref m, .int (nI kd), .int x1, .int 0, .long (lN (nm f i L))] (sh, I, J, R) (sh, I2, J2, R) none ∧ s_X9_cut_7 γ l m (x1 + x3) (sh, I2, J2, R) Q) :
    ∀ (d k kd : Nat), k + d = 14 → ((kd = 1 ∧ ∀ j, j < k → mtB f i L (kw j) = false) ∨ ∃ j, j < k ∧ mtB f i L (kw j) = true ∧ kd = 20 + j) → s_X9_cut_146 γ l m x1 x3 (lN (nm f i L)) (nI kd) (nI k) (sh, I, J, R) Q := by
  intro d
  induction d with
  | zero =>
    intro k kd hk h
    have : k = 14 := by omega
    subst this
    refine w_X9_cut_146 hA ⟨fun _ => hQ kd ?_, fun z => absurd (nI_le (Nat.le_refl 14) (by decide)) z⟩
    have hb := (seek_le (mtB f i L) 14 0).2
    rcases h with ⟨h1, h2⟩ | ⟨j, h1, h2, h3⟩
    · have e : wnum f i L = 14 := by
        rcases Nat.lt_or_ge (wnum f i L) 14 with q | q
        · have := seek_yes (mtB f i L) 14 0 (by unfold wnum at q; omega)
          obtain ⟨k, hk⟩ := kw_onto ⟨wnum f i L, q⟩
          have h4 := h2 k.val k.isLt
          rw [hk] at h4
          simp only at h4
          unfold wnum at h4
          rw [this] at h4
          exact absurd h4 (by decide)
        · unfold wnum at q ⊢; omega
      rw [e, h1]
      exact Or.inl ⟨rfl, Or.inl rfl⟩
    · have hw := kw_lt ⟨j, h1⟩
      simp only at hw
      have e : wnum f i L = kw j := by
        rcases Nat.lt_or_ge (kw j) (wnum f i L) with q | q
        · have := seek_no (mtB f i L) 14 0 (kw j) (by omega) q
          rw [h2] at this
          exact absurd this (by decide)
        · have := seek_yes (mtB f i L) 14 0 (by unfold wnum at q; omega)
          exact mtB_one (by unfold wnum at q ⊢; omega) hw this h2
      have h4 := KR_w ⟨j, h1⟩
      rw [e, h3]
      exact Or.inr ⟨h4.2, h4.1⟩
  | succ d ih =>
    intro k kd hk h
    refine w_X9_cut_146 hA ⟨fun z => absurd z (nI_ge (show k < 14 by omega) (by decide)), fun _ => ⟨vp_in_nI (by omega) (by decide), ?_⟩⟩
    rw [nI_clamp (by omega), hK k (by omega), nI_1, lg_0]
    have hm := mtB_nm (f := f) (st := i) hL (show k < 14 by omega) hl
    have hbd : nm f i L < 2 ^ 63 := Nat.lt_of_lt_of_le (nm_lt L hl) (Nat.le_trans (Nat.pow_le_pow_right (by decide) hL) (by decide))
    have hbk : keyN k < 2 ^ 63 := by
      have : ∀ k : Fin 14, keyN k.val < 2 ^ 63 := by decide +kernel
      exact this ⟨k, by omega⟩
    refine ⟨fun z => ?_, fun z => ?_⟩
    · have hm2 := hm.mpr (lN_inj hbk hbd z)
      rw [show (20 : Int32) + nI k = nI (20 + k) from nI_add 20 k]
      exact ih (k + 1) (20 + k) (by omega) (Or.inr ⟨k, by omega, hm2, rfl⟩)
    · have hm2 : mtB f i L (kw k) = false := by
        by_cases q : mtB f i L (kw k) = true
        · exact absurd (by rw [hm.mp q]) z
        · simpa using q
      refine ih (k + 1) kd (by omega) ?_
      rcases h with ⟨h1, h2⟩ | ⟨j, h1, h2, h3⟩
      · refine Or.inl ⟨h1, fun j hj => ?_⟩
        by_cases e : j = k
        · rw [e]; exact hm2
        · exact h2 j (by omega)
      · exact Or.inr ⟨j, by omega, h2, h3⟩
theorem wnum8 {i : Nat} (hl : ltB (f (i + 7)) = true) : wnum f i 8 = 14 := by
  have hb := (seek_le (mtB f i 8) 14 0).2
  rcases Nat.lt_or_ge (wnum f i 8) 14 with q | q
  · have h1 := seek_yes (mtB f i 8) 14 0 (by unfold wnum at q; omega)
    have h2 := mtB_iff.mp h1 7 (by decide)
    rw [if_pos (by decide)] at h2
    obtain ⟨w1, w2⟩ := wl_ok ⟨wnum f i 8, q⟩
    have h3 := (w2 ⟨7, by decide⟩).2 (by simp only; simp only at w1; omega)
    simp only at h3
    unfold wnum at h3
    rw [h3] at h2
    rw [← h2] at hl
    exact absurd hl (by decide)
  · unfold wnum at q ⊢; omega
/-- a word -/
theorem cut_word {Q : rHeap → Option Value → Prop} {i : Nat} (hA : At9 sh R m) (hT : TxM I m n f) (hB : ByM f n) (hK : KeysM J m) (hi : i < n)
    (hQ : ∀ kd w, KR kd (wT (wIx f n i)).1 (wT (wIx f n i)).2 → ∃ I2 J2, rMet γ l m_X9_tokenIs [.ref m, .int (nI kd), .int (nI i), .int 0, .long w] (sh, I, J, R) (sh, I2, J2, R) none ∧ s_X9_cut_7 γ l m (nI (eL f n i)) (sh, I2, J2, R) Q) :
    ∀ (d k : Nat), i + k + d = n → seek (fun j => !ltB (f j)) d (i + k) = eL f n i → s_X9_cut_85 γ l m (nI i) (nI k) (lN (nm f i (if k ≤ 8 then k else 8))) (sh, I, J, R) Q := by
  have hn := hT.1
  have hle := seek_le (fun j => !ltB (f j)) (n - i) i
  have hl : ∀ j, j < eL f n i - i → ltB (f (i + j)) = true := by
    intro j hj
    have := seek_no (fun j => !ltB (f j)) (n - i) i (i + j) (by omega) (by unfold eL at hj; omega)
    simpa using this
  have fin : ∀ k, i + k ≤ n → eL f n i = i + k → ((nI k ≤ (8 : Int32) → s_X9_cut_135 γ l m (nI i) (nI k) (lN (nm f i (if k ≤ 8 then k else 8))) 1 (sh, I, J, R) Q) ∧ (¬ nI k ≤ (8 : Int32) → s_X9_cut_135 γ l m (nI i) (nI k) (lN (nm f i (if k ≤ 8 then k else 8))) 3 (sh, I, J, R) Q)) := by
    intro k hk he
    have ek : eL f n i - i = k := by omega
    rw [ek] at hl
    have ejump : nI i + nI k = nI (eL f n i) := by rw [nI_add, he]
    have big : ∀ s : Nat, 7 < k → KR s (wT (wIx f n i)).1 (wT (wIx f n i)).2 → s_X9_cut_135 γ l m (nI i) (nI k) (lN (nm f i (if k ≤ 8 then k else 8))) (nI s) (sh, I, J, R) Q := by
      intro s h7 hs
      refine w_X9_cut_135 hA ⟨fun _ => ?_, fun z => absurd (nI_lt h7 (by omega)) z⟩
      rw [ejump]
      exact hQ s _ hs
    refine ⟨fun q => ?_, fun q => ?_⟩
    · rw [show (8 : Int32) = nI 8 from rfl, nI_leI (by omega) (by decide)] at q
      have eW : wIx f n i = wnum f i k := by unfold wIx; rw [ek, if_pos q]
      by_cases h7 : k ≤ 7
      · refine w_X9_cut_135 hA ⟨fun z => absurd z (nI_nlt (show k ≤ 7 from h7) (by decide)), fun _ => ?_⟩
        rw [if_pos q]
        refine cut_keys hA hK h7 hl _ _ (fun kd hkd => ?_) 14 0 1 rfl (Or.inl ⟨rfl, fun j hj => absurd hj (by omega)⟩)
        rw [ejump]
        exact hQ kd _ (by rw [eW]; exact hkd)
      · have e8 : k = 8 := by omega
        subst e8
        exact big 1 (by omega) (by rw [eW, wnum8 (hl 7 (by omega))]; exact Or.inl ⟨rfl, Or.inl rfl⟩)
    · rw [show (8 : Int32) = nI 8 from rfl, nI_leI (by omega) (by decide)] at q
      have eW : wIx f n i = 14 := by unfold wIx; rw [ek, if_neg q]
      exact big 3 (by omega) (by rw [eW]; exact Or.inl ⟨rfl, Or.inr rfl⟩)
  intro d
  induction d with
  | zero =>
    intro k hk he
    refine w_X9_cut_85 hA ⟨ubA f n (i + k), by rw [nI_add]; exact ct_byteAt hA hT (by omega), _, ct_isLetterM _, ?_⟩
    rw [ubA_lt hB, decide_eq_false (by omega), Bool.false_and]
    exact ⟨fun _ => fin k (by omega) he.symm, fun z => absurd rfl z⟩
  | succ d ih =>
    intro k hk he
    refine w_X9_cut_85 hA ⟨ubA f n (i + k), by rw [nI_add]; exact ct_byteAt hA hT (by omega), _, ct_isLetterM _, ?_⟩
    rw [ubA_lt hB, decide_eq_true (by omega), Bool.true_and]
    by_cases hb : ltB (f (i + k)) = true
    · rw [hb]
      refine ⟨fun z => absurd z (by decide), fun _ => ⟨fun q => ?_, fun q => ?_⟩⟩
      · rw [show (8 : Int32) = nI 8 from rfl, nI_leI (by decide) (by omega)] at q
        have := ih (k + 1) (by omega) (by rw [← he]; simp [seek, hb, Nat.add_assoc])
        rw [if_neg (show ¬ k + 1 ≤ 8 by omega)] at this
        rw [nI_1]
        by_cases e : k ≤ 8
        · have : k = 8 := by omega
          subst this
          rw [if_pos e]; assumption
        · rw [if_neg e]; exact this
      · rw [show (8 : Int32) = nI 8 from rfl, nI_leI (by decide) (by omega)] at q
        have := ih (k + 1) (by omega) (by rw [← he]; simp [seek, hb, Nat.add_assoc])
        rw [if_pos (show k + 1 ≤ 8 by omega)] at this
        rw [if_pos (show k ≤ 8 by omega)]
        have eub : ubA f n (i + k) = f (i + k) := by unfold ubA; rw [if_pos (by omega)]; exact (ub_all (hB _ (by omega))).2.2.2.2.2.1 hb
        refine ⟨ubA f n (i + k), by rw [nI_add]; exact ct_byteAt hA hT (by omega), lN (nm f i (k + 1)), ?_, by rw [nI_1]; exact this⟩
        rw [eub]
        exact ct_moreL _ hb
    · have hb' : ltB (f (i + k)) = false := by simpa using hb
      rw [hb']
      refine ⟨fun _ => fin k (by omega) ?_, fun z => absurd rfl z⟩
      rw [← he]
      simp [seek, hb']
/-- a number -/
theorem cut_num {Q : rHeap → Option Value → Prop} {i : Nat} (hA : At9 sh R m) (hT : TxM I m n f) (hB : ByM f n) (hi : i < n)
    (hQ : ∀ v, (eD f n i - i ≤ 4 → v = nI (dN f i (eD f n i - i))) → ∃ I2 J2, rMet γ l m_X9_tokenIs [.ref m, .int (nI (if eD f n i - i ≤ 4 then 2 else 3)), .int (nI i), .int v, .long 0] (sh, I, J, R) (sh, I2, J2, R) none ∧ s_X9_cut_7 γ l m (nI (eD f n i)) (sh, I2, J2, R) Q) :
    ∀ (d k : Nat) (v : Int32), i + k + d = n → (k ≤ 4 → v = nI (dN f i k)) → seek (fun j => !dgB (f j)) d (i + k) = eD f n i → s_X9_cut_208 γ l m (nI i) (nI k) v (sh, I, J, R) Q := by
  have hn := hT.1
  have fin : ∀ k v, i + k ≤ n → (k ≤ 4 → v = nI (dN f i k)) → eD f n i = i + k → ((nI k ≤ (4 : Int32) → ∃ I2 J2, rMet γ l m_X9_tokenIs [.ref m, .int 2, .int (nI i), .int v, .long 0] (sh, I, J, R) (sh, I2, J2, R) none ∧ s_X9_cut_7 γ l m (nI i + nI k) (sh, I2, J2, R) Q) ∧ (¬ nI k ≤ (4 : Int32) → ∃ I2 J2, rMet γ l m_X9_tokenIs [.ref m, .int 3, .int (nI i), .int v, .long 0] (sh, I, J, R) (sh, I2, J2, R) none ∧ s_X9_cut_7 γ l m (nI i + nI k) (sh, I2, J2, R) Q)) := by
    intro k v hk hv he
    have ek : eD f n i - i = k := by omega
    rw [nI_add, ← he]
    rw [ek] at hQ
    rw [show (4 : Int32) = nI 4 from rfl, nI_leI (by omega) (by decide)]
    refine ⟨fun q => ?_, fun q => ?_⟩
    · have := hQ v hv
      rw [if_pos q] at this
      exact this
    · have := hQ v hv
      rw [if_neg q] at this
      exact this
  intro d
  induction d with
  | zero =>
    intro k v hk hv he
    refine w_X9_cut_208 hA ⟨ubA f n (i + k), by rw [nI_add]; exact ct_byteAt hA hT (by omega), _, ct_isDigitM _, ?_⟩
    rw [ubA_dg hB, decide_eq_false (by omega), Bool.false_and]
    exact ⟨fun _ => fin k v (by omega) hv he.symm, fun z => absurd rfl z⟩
  | succ d ih =>
    intro k v hk hv he
    refine w_X9_cut_208 hA ⟨ubA f n (i + k), by rw [nI_add]; exact ct_byteAt hA hT (by omega), _, ct_isDigitM _, ?_⟩
    rw [ubA_dg hB, decide_eq_true (by omega), Bool.true_and]
    by_cases hb : dgB (f (i + k)) = true
    · rw [hb]
      have hseek : seek (fun j => !dgB (f j)) d (i + (k + 1)) = eD f n i := by rw [← he]; simp [seek, hb, Nat.add_assoc]
      refine ⟨fun z => absurd z (by decide), fun _ => ⟨fun q => ?_, fun q => ?_⟩⟩
      · rw [show (4 : Int32) = nI 4 from rfl, nI_leI (by decide) (by omega)] at q
        rw [nI_1]
        exact ih (k + 1) v (by omega) (fun z => absurd z (by omega)) hseek
      · rw [show (4 : Int32) = nI 4 from rfl, nI_leI (by decide) (by omega)] at q
        rw [nI_1]
        have eub : ubA f n (i + k) = f (i + k) := by unfold ubA; rw [if_pos (by omega)]; exact (ub_all (hB _ (by omega))).2.2.2.2.2.2 hb
        refine ⟨ubA f n (i + k), by rw [nI_add]; exact ct_byteAt hA hT (by omega), ih (k + 1) _ (by omega) (fun _ => ?_) hseek⟩
        rw [eub, hv (by omega), Int32.sub_eq_add_neg, Int32.add_assoc, ← Int32.sub_eq_add_neg, (dgB_v hb).1, nI_mul10]
        rfl
    · have hb' : dgB (f (i + k)) = false := by simpa using hb
      rw [hb']
      refine ⟨fun _ => fin k v (by omega) hv ?_, fun z => absurd rfl z⟩
      rw [← he]
      simp [seek, hb']
theorem tkS_blank {i : Nat} (hi : i < n) (hb : blB (f i) = true) : tkS f n i = tkS f n (i + 1) := by
  unfold tkS
  have e : n - i = (n - (i + 1)) + 1 := by omega
  rw [e]
  simp [seek, hb]
theorem tkS_self {i : Nat} (hi : i < n) (hb : blB (f i) = false) : tkS f n i = i := by
  unfold tkS
  have e : n - i = (n - (i + 1)) + 1 := by omega
  rw [e]
  simp [seek, hb]
theorem tkS_end {i : Nat} (hi : n ≤ i) : tkS f n i = i := by
  unfold tkS
  have e : n - i = 0 := by omega
  rw [e]; rfl
theorem ct_cut (hA : At9 sh R m) (hT : TxM I m n f) (hB : ByM f n) (hK : KeysM J m) : ∃ I' J', rMet γ l m_X9_cut [.ref m] (sh, I, J, R) (sh, I', J', R) none ∧ ((∀ j, j ≤ 400 → (∀ k, k < j → (tokA f n k).1 ≠ 0) → TkM I' m f n j) ∧ Sm (Fct m) I I' ∧ SmJ (m + 6) J J') := by
  have hn := hT.1
  have key : ∀ (d i t : Nat) (I1 : Nat → Nat → Int32) (J1 : Nat → Nat → Int64), n - i ≤ d → i ≤ n → t ≤ 401 → tkS f n i = stA f n t → CutI I J m f n t I1 J1 → s_X9_cut_7 γ l m (nI i) (sh, I1, J1, R) (fun hf v => ∃ I' J', hf = (sh, I', J', R) ∧ v = none ∧ ((∀ j, j ≤ 400 → (∀ k, k < j → (tokA f n k).1 ≠ 0) → TkM I' m f n j) ∧ Sm (Fct m) I I' ∧ SmJ (m + 6) J J')) := by
    intro d
    induction d with
    | zero =>
      intro i t I1 J1 hd hi ht hs hC
      have hT1 := hC.tx hT
      refine w_X9_cut_7 hA ⟨fun q => ?_, fun q => ⟨_, ct_byteAt hA hT1 (by omega), fun z => ?_, fun z => ?_⟩⟩
      · rw [hC.1, show (400 : Int32) = nI 400 from rfl, nI_ltI (by decide) (by omega)] at q
        exact ⟨I1, J1, rfl, rfl, fun j hj _ => hC.2.1 j (by omega), hC.2.2.1, hC.2.2.2⟩
      · rw [hT1.2.1, nI_ltI (by omega) (by omega)] at z; omega
      · rw [hC.1, show (400 : Int32) = nI 400 from rfl, nI_ltI (by decide) (by omega)] at q
        have est : stA f n t = n := by rw [← hs, tkS_end (by omega)]; omega
        have etk : tokA f n t = (0, 0, n) := by unfold tokA; rw [est]; unfold tkA; rw [if_neg (by omega)]
        obtain ⟨I2, J2, d1, d2⟩ := hC.push (γ := γ) (l := l) (v := 0) (w := 0) hA (by omega) (kd := 0) (by rw [etk]; exact Or.inr ⟨show (0 : Nat) ≠ 1 by decide, rfl⟩) (fun z => by rw [etk] at z; exact absurd (show (0 : Nat) = 2 from z) (by decide))
        rw [est] at d1
        rw [hT1.2.1]
        refine ⟨I2, J2, d1, I2, J2, rfl, rfl, fun j hj hk => ?_, d2.2.2.1, d2.2.2.2⟩
        rcases Nat.lt_or_ge t j with q2 | q2
        · exact absurd (by rw [etk]) (hk t q2)
        · exact d2.2.1 j (by omega)
    | succ d ih =>
      intro i t I1 J1 hd hi ht hs hC
      have hT1 := hC.tx hT
      rcases Nat.lt_or_ge i n with hin | hin
      · refine w_X9_cut_7 hA ⟨fun q => ?_, fun q => ⟨_, ct_byteAt hA hT1 (by omega), fun z => ?_, fun z => absurd (by rw [hT1.2.1]; exact nI_lt hin (by omega)) z⟩⟩
        · rw [hC.1, show (400 : Int32) = nI 400 from rfl, nI_ltI (by decide) (by omega)] at q
          exact ⟨I1, J1, rfl, rfl, fun j hj _ => hC.2.1 j (by omega), hC.2.2.1, hC.2.2.2⟩
        · rw [hC.1, show (400 : Int32) = nI 400 from rfl, nI_ltI (by decide) (by omega)] at q
          have eu : ubA f n i = f i &&& 255 := by unfold ubA; rw [if_pos hin]
          have hub := ub_all (hB i hin)
          have hblank : blB (f i) = true → s_X9_cut_7 γ l m (nI i + 1) (sh, I1, J1, R) (fun hf v => ∃ I' J', hf = (sh, I', J', R) ∧ v = none ∧ ((∀ j, j ≤ 400 → (∀ k, k < j → (tokA f n k).1 ≠ 0) → TkM I' m f n j) ∧ Sm (Fct m) I I' ∧ SmJ (m + 6) J J')) := by
            intro hb
            rw [nI_1]
            exact ih (i + 1) t I1 J1 (by omega) (by omega) ht (by rw [← tkS_blank hin hb]; exact hs) hC
          have hbl : blB (ubA f n i) = blB (f i) := by rw [eu]; exact hub.2.2.1
          refine ⟨fun y => hblank (by rw [← hbl, y]; rfl), fun y1 => ⟨fun y => hblank (by rw [← hbl, y]; rfl), fun y2 => ⟨fun y => hblank (by rw [← hbl, y]; rfl), fun y3 => ⟨fun y => hblank (by rw [← hbl, y]; rfl), fun y4 => ?_⟩⟩⟩⟩
          have hnb : blB (f i) = false := by rw [← hbl]; simp [blB, y1, y2, y3, y4]
          have est : stA f n t = i := by rw [← hs]; exact tkS_self hin hnb
          have etk : tokA f n t = tkA f n i := by unfold tokA; rw [est]
          have hnext : psA f n (t + 1) = (tkA f n i).2.2 := by show (tkA f n (stA f n t)).2.2 = _; rw [est]
          have hgo : ∀ I2 J2, CutI I J m f n (t + 1) I2 J2 → i < (tkA f n i).2.2 → (tkA f n i).2.2 ≤ n → s_X9_cut_7 γ l m (nI (tkA f n i).2.2) (sh, I2, J2, R) (fun hf v => ∃ I' J', hf = (sh, I', J', R) ∧ v = none ∧ ((∀ j, j ≤ 400 → (∀ k, k < j → (tokA f n k).1 ≠ 0) → TkM I' m f n j) ∧ Sm (Fct m) I I' ∧ SmJ (m + 6) J J')) := by
            intro I2 J2 hC2 h1 h2
            exact ih _ (t + 1) I2 J2 (by omega) h2 (by omega) (by unfold stA; rw [hnext]) hC2
          refine ⟨_, ct_isLetterM _, fun hl => ⟨_, ct_isDigitM _, fun hdg => ⟨_, by rw [nI_1]; exact ct_byteAt hA hT1 (by omega), ?_⟩, fun hdg => ?_⟩, fun hl => ?_⟩
          · have hl' : ltB (f i) = false := by
              rw [eu, hub.1] at hl; revert hl; cases ltB (f i) <;> simp [nz]
            have hd' : dgB (f i) = false := by
              rw [eu, hub.2.1] at hdg; revert hdg; cases dgB (f i) <;> simp [nz]
            have et : tkA f n i = (sgS (f i) (eqN f n i), 0, i + sgL (sgS (f i) (eqN f n i))) := by unfold tkA; rw [if_pos hin, hl', hd']; rfl
            have eg : sgS (ubA f n i) (eqN f n i) = sgS (f i) (eqN f n i) := by rw [eu]; exact hub.2.2.2.1 _
            obtain ⟨I2, J2, d1, d2⟩ := ct_sign (γ := γ) (l := l) (c := ubA f n i) (d := ubA f n (i + 1)) (b := eqN f n i) hA hC (by omega) (ubA_eq hB) (by rw [etk, et]; exact ⟨eg.symm, rfl⟩)
            rw [est, eg] at d1
            refine ⟨I2, J2, _, d1, ?_⟩
            rw [nI_add]
            have hL2 : sgL (sgS (f i) (eqN f n i)) = 1 ∨ (sgL (sgS (f i) (eqN f n i)) = 2 ∧ i + 1 < n) := by
              by_cases he : eqN f n i = true
              · have : i + 1 < n := by unfold eqN at he; simp at he; exact he.1
                unfold sgL; split
                · exact Or.inr ⟨rfl, this⟩
                · exact Or.inl rfl
              · have he' : eqN f n i = false := by simpa using he
                rw [he', (kdA_ok (f i) false).2]
                exact Or.inl rfl
            have := hgo I2 J2 d2 (by rw [et]; show i < i + _; omega) (by rw [et]; show i + _ ≤ n; omega)
            rw [et] at this
            exact this
          · have hl' : ltB (f i) = false := by
              rw [eu, hub.1] at hl; revert hl; cases ltB (f i) <;> simp [nz]
            have hd' : dgB (f i) = true := by
              rw [eu, hub.2.1] at hdg; revert hdg; cases dgB (f i) <;> simp [nz]
            have hsk := seek_le (fun j => !dgB (f j)) (n - i) i
            have hin2 : i < eD f n i := by
              rcases Nat.lt_or_ge i (eD f n i) with q2 | q2
              · exact q2
              · have h0 : eD f n i = i := by unfold eD at q2 ⊢; omega
                have := seek_yes (fun j => !dgB (f j)) (n - i) i (by unfold eD at h0; omega)
                unfold eD at h0
                rw [h0] at this
                simp [hd'] at this
            have et : tkA f n i = if eD f n i - i ≤ 4 then (2, dN f i (eD f n i - i), eD f n i) else (1, 0, eD f n i) := by unfold tkA; rw [if_pos hin, hl', hd']; rfl
            have ee : (tkA f n i).2.2 = eD f n i := by rw [et]; split <;> rfl
            refine cut_num hA hT1 hB hin (fun v hv => ?_) (n - i) 0 0 (by omega) (fun _ => rfl) rfl
            by_cases h4 : eD f n i - i ≤ 4
            · rw [if_pos h4] at et ⊢
              obtain ⟨I2, J2, d1, d2⟩ := hC.push (γ := γ) (l := l) (v := v) (w := 0) hA (by omega) (kd := 2) (by rw [etk, et]; exact Or.inr ⟨show (2 : Nat) ≠ 1 by decide, rfl⟩) (fun _ => by rw [etk, et]; exact hv h4)
              rw [est] at d1
              refine ⟨I2, J2, d1, ?_⟩
              have := hgo I2 J2 d2 (by rw [ee]; exact hin2) (by rw [ee]; unfold eD; omega)
              rw [ee] at this
              exact this
            · rw [if_neg h4] at et ⊢
              obtain ⟨I2, J2, d1, d2⟩ := hC.push (γ := γ) (l := l) (v := v) (w := 0) hA (by omega) (kd := 3) (by rw [etk, et]; exact Or.inl ⟨rfl, Or.inr rfl⟩) (fun z => by rw [etk, et] at z; exact absurd (show (1 : Nat) = 2 from z) (by decide))
              rw [est] at d1
              refine ⟨I2, J2, d1, ?_⟩
              have := hgo I2 J2 d2 (by rw [ee]; exact hin2) (by rw [ee]; unfold eD; omega)
              rw [ee] at this
              exact this
          · have hl' : ltB (f i) = true := by
              rw [eu, hub.1] at hl; revert hl; cases ltB (f i) <;> simp [nz]
            have hsk := seek_le (fun j => !ltB (f j)) (n - i) i
            have hin2 : i < eL f n i := by
              rcases Nat.lt_or_ge i (eL f n i) with q2 | q2
              · exact q2
              · have h0 : eL f n i = i := by unfold eL at q2 ⊢; omega
                have := seek_yes (fun j => !ltB (f j)) (n - i) i (by unfold eL at h0; omega)
                unfold eL at h0
                rw [h0] at this
                simp [hl'] at this
            have et : tkA f n i = ((wT (wIx f n i)).1, (wT (wIx f n i)).2, eL f n i) := by unfold tkA; rw [if_pos hin, hl']; rfl
            refine cut_word hA hT1 hB (hC.ky hK) hin (fun kd w hkd => ?_) (n - i) 0 (by omega) rfl
            obtain ⟨I2, J2, d1, d2⟩ := hC.push (γ := γ) (l := l) (v := 0) (w := w) hA (by omega) (kd := kd) (by rw [etk, et]; exact hkd) (fun z => by
              rw [etk, et] at z
              exfalso
              revert z
              show ¬ (wT (wIx f n i)).1 = 2
              unfold wT
              repeat' split
              all_goals simp)
            rw [est] at d1
            refine ⟨I2, J2, d1, ?_⟩
            have := hgo I2 J2 d2 (by rw [et]; exact hin2) (by rw [et]; show eL f n i ≤ n; unfold eL; omega)
            rw [et] at this
            exact this
      · exact ih i t I1 J1 (by omega) hi ht hs hC
  have hC0 : CutI I J m f n 0 (up I m 10 0) J := ⟨by rw [up_at, if_pos ⟨rfl, rfl⟩]; rfl, fun j hj => absurd hj (by omega), Sm.rf.up (by unfold Fct; omega), SmJ.rf⟩
  obtain ⟨I', J', q1, q2⟩ := rW_exJ (γ := γ) (l := l) (w_X9_cut_0 hA (key n 0 0 _ J (by omega) (by omega) (by omega) rfl hC0))
  exact ⟨I', J', e_X9_cut q1, q2⟩
end MCUT2
