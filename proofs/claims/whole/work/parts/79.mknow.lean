/-! ===== the way: the model's prices and tale; pairs ===== -/
def WyM (I : Nat → Nat → Int32) (m H D K : Nat) (ho ld wh : Nat → Nat) : Prop := (I m 69 = nI H ∧ I m 71 = nI D ∧ I m 73 = nI K) ∧ (∀ j, j < D → I (m + 46) j = nI (ho j)) ∧ ∀ j, j < K → I (m + 47) j = nI (ld j) ∧ I (m + 48) j = nI (wh j)
def Pmp (m b _j : Nat) : Prop := b = m + 23 ∨ b = m + 24 ∨ b = m + 49 ∨ b = m + 50 ∨ b = m + 52 ∨ b = m + 53
theorem WyM.loc {I I' : Nat → Nat → Int32} {m H D K : Nat} {ho ld wh : Nat → Nat} (h : WyM I m H D K ho ld wh) (hq : ∀ b j, (b = m ∧ (j = 69 ∨ j = 71 ∨ j = 73)) ∨ b = m + 46 ∨ b = m + 47 ∨ b = m + 48 → I' b j = I b j) : WyM I' m H D K ho ld wh := by
  obtain ⟨⟨h2, h3, h4⟩, h5, h6⟩ := h
  exact ⟨⟨(hq _ _ (by omega)).trans h2, (hq _ _ (by omega)).trans h3, (hq _ _ (by omega)).trans h4⟩, fun j hj => (hq _ _ (by omega)).trans (h5 j hj), fun j hj => ⟨(hq _ _ (by omega)).trans (h6 j hj).1, (hq _ _ (by omega)).trans (h6 j hj).2⟩⟩
section MKN
variable {γ : rG} {l : Launch} {sh : Nat × (Nat → Nat) × (Nat → Nat)} {I : Nat → Nat → Int32} {J : Nat → Nat → Int64} {R : Nat → Nat → Option Nat} {m s H D K n : Nat} {ho ld wh : Nat → Nat} {Rs : List Rul}
theorem ask_m {x1 x2 x3 x4 x5 : Int32} {srt : Nat} (hA : At9 sh R m) (hV : V_prc Rs) (hM : PrM I m s Rs) (h18 : I m 18 = nI s) (hs : srt < 2 ^ 31) :
    ∃ I1 I2, rMet γ l m_X9_asks [.ref m, .int x1, .int x2, .int x3, .int x4, .int x5] (sh, I, J, R) (sh, I1, J, R) none ∧ rMet γ l m_X9_priceOf [.ref m, .int (nI srt)] (sh, I1, J, R) (sh, I2, J, R) (some (.int (fwJ (vr5 x1 x2 x3 x4 x5) srt 10 Rs))) ∧ Sm (fun b _ => b = m + 23 ∨ b = m + 24) I I2 := by
  have hM1 : PrM (vsI I (m + 23) x1 x2 x3 x4 x5) m s Rs := hM.loc (fun b j q1 q2 => vsI_sm b j (by omega))
  obtain ⟨I2, d1, d2⟩ := ct_priceOf (γ := γ) (l := l) (J := J) (vr := vr5 x1 x2 x3 x4 x5) (srt := srt) hA hV hM1 ((vsI_sm m 18 (by omega)).trans h18) hs (fun j hj => vsI_at j hj)
  exact ⟨_, I2, ct_asks hA, d1, fun b j w => by rw [d2 b j (fun t => w (Or.inr t)), vsI_sm b j (fun t => w (Or.inl t))]⟩
/-- the third loop: from the last day on -/
theorem prices3 {oc sc : Nat → Nat} {db : Nat → Nat → Nat} (hA : At9 sh R m) (hb : Bw D oc sc db) (h71 : I m 71 = nI D) (hC : CsM I m D oc sc) (hd : ∀ d t, d < D → t < 3 → I (m + 49) (3 * d + t) = nI (db d t)) : ∀ k (I1 : Nat → Nat → Int32), k ≤ D → (∀ d, k ≤ d → d < D → RsM I1 m D oc sc db d) → Sm (fun b _ => b = m + 50) I I1 → s_X9_prices_188 γ l m (nI k - 1) (sh, I1, J, R) (fun hf v => ∃ I', hf = (sh, I', J, R) ∧ v = none ∧ ((∀ d, d < D → RsM I' m D oc sc db d) ∧ Sm (fun b _ => b = m + 50) I I')) := by
  have h36 := hb.1
  intro k
  induction k with
  | zero =>
    intro I1 _ hr hS
    exact w_X9_prices_188 hA ⟨fun _ => ⟨I1, rfl, rfl, fun d hd => hr d (Nat.zero_le _) hd, hS⟩, fun z => absurd (by decide) z⟩
  | succ k ih =>
    intro I1 hk hr hS
    rw [nI_pred]
    have inn : ∀ j t (I2 : Nat → Nat → Int32), t + j = 3 → (∀ d, k + 1 ≤ d → d < D → RsM I2 m D oc sc db d) → (∀ u, u < t → I2 (m + 50) (3 * k + u) = nI (db k u + LW D oc sc db (fun _ => false) (D - (k + 1)) u)) → Sm (fun b _ => b = m + 50) I I2 → s_X9_prices_194 γ l m (nI k) (nI t) (sh, I2, J, R) (fun hf v => ∃ I', hf = (sh, I', J, R) ∧ v = none ∧ ((∀ d, d < D → RsM I' m D oc sc db d) ∧ Sm (fun b _ => b = m + 50) I I')) := by
      intro j
      induction j with
      | zero =>
        intro t I2 ht h1 h2 h3
        have e : t = 3 := by omega
        subst e
        refine w_X9_prices_194 hA ⟨fun _ => ?_, fun z => absurd (by decide) z⟩
        have := ih I2 (by omega) (fun d q1 q2 => by
          by_cases e : d = k
          · subst e; exact h2
          · exact h1 d (by omega) q2) h3
        rw [Int32.sub_eq_add_neg] at this
        exact this
      | succ j ih2 =>
        intro t I2 ht h1 h2 h3
        have hv : vp_in (nI (3 * k + t)) 108 := vp_in_nI (by omega) (by decide)
        have e71 : I2 m 71 = nI D := (h3 _ _ (by simp)).trans h71
        have eD : nI D - (1 : Int32) = nI (D - 1) := pk_sub (b := 1) (by omega)
        have hC2 : CsM I2 m D oc sc := fun d hd => ⟨(h3 _ _ (by simp)).trans (hC d hd).1, (h3 _ _ (by simp)).trans (hC d hd).2⟩
        have fin : ∀ b : Nat, b = LW D oc sc db (fun _ => false) (D - (k + 1)) t → s_X9_prices_302 γ l m (nI k) (nI t) (nI b) (sh, I2, J, R) (fun hf v => ∃ I', hf = (sh, I', J, R) ∧ v = none ∧ ((∀ d, d < D → RsM I' m D oc sc db d) ∧ Sm (fun b _ => b = m + 50) I I')) := by
          intro b hb2
          refine w_X9_prices_302 hA ?_
          rw [e3, nI_clamp (show 3 * k + t < 2 ^ 31 by omega), h3 (m + 49) _ (by simp), hd k t (by omega) (by omega), nI_add, nI_1]
          refine ⟨hv, hv, ih2 (t + 1) _ (by omega) (fun d q1 q2 u hu => by rw [up_at, if_neg (by omega)]; exact h1 d q1 q2 u hu) (fun u hu => ?_) (h3.up rfl)⟩
          by_cases e : u = t
          · subst e; rw [up_at, if_pos ⟨rfl, rfl⟩, hb2, Nat.add_comm]
          · rw [up_at, if_neg (by omega)]; exact h2 u (by omega)
        refine w_X9_prices_194 hA ⟨fun z => absurd z (nI_ge (show t < 3 by omega) (by decide)), fun _ => ?_⟩
        rw [e71, eD, nI_eq (by omega) (by omega)]
        refine ⟨fun y => ?_, fun y => ?_⟩
        · refine w_X9_prices_221 hA ⟨fun z => absurd z (by decide), fun _ => ?_⟩
          rw [e71, eD]
          refine ⟨fun _ => ?_, fun z => absurd (nI_le (by omega) (by omega)) z⟩
          have := fin 0 (by rw [show D - (k + 1) = 0 by omega]; rfl)
          rw [nI_0] at this
          exact this
        · have hd1 : k + 1 < D := by omega
          have ht3 : t < 3 := by omega
          have ho3 := oth_lt ht3
          have hfin : bsW (csW D oc sc db (k + 1) t) t 3 = LW D oc sc db (fun _ => false) (D - (k + 1)) t := by
            have c1 := csW_le (s := t) hb hd1 ht3
            have c2 := csW_le (s := t) hb hd1 ho3.1
            rw [bsW_3 ht3 (by omega) (by omega), LW_min hd1]
          have bb : ∀ x, bsW (csW D oc sc db (k + 1) t) t x ≤ 100000000 := by
            intro x
            induction x with
            | zero => exact Nat.le_refl _
            | succ x ih => simp only [bsW]; split <;> omega
          have lp : ∀ j2 x, x + j2 = 3 → s_X9_prices_221 γ l m (nI k) (nI t) (nI (bsW (csW D oc sc db (k + 1) t) t x)) (nI x) (sh, I2, J, R) (fun hf v => ∃ I', hf = (sh, I', J, R) ∧ v = none ∧ ((∀ d, d < D → RsM I' m D oc sc db d) ∧ Sm (fun b _ => b = m + 50) I I')) := by
            intro j2
            induction j2 with
            | zero =>
              intro x hx
              have e : x = 3 := by omega
              subst e
              exact w_X9_prices_221 hA ⟨fun _ => fin _ hfin, fun z => absurd (by decide) z⟩
            | succ j2 ih3 =>
              intro x hx
              have nx := ih3 (x + 1) (by omega)
              have hv2 : vp_in (nI (3 * (k + 1) + x)) 108 := vp_in_nI (by omega) (by decide)
              have b1 := bb x
              have e33 : (((3 : Int32) * nI k) + (3 : Int32)) + nI x = nI (3 * (k + 1) + x) := by rw [show (3 : Int32) = nI 3 by decide, pk_mul, nI_add, nI_add]; rfl
              refine w_X9_prices_221 hA ⟨fun z => absurd z (nI_ge (show x < 3 by omega) (by decide)), fun _ => ?_⟩
              rw [e71, eD, nI_1]
              refine ⟨fun z => absurd z (nI_ge (by omega) (by omega)), fun _ => ⟨_, ct_change hA h36 hC2 hd1 ht3 (by omega), ?_⟩⟩
              rw [far_iff hb hd1, e33, nI_clamp (show 3 * (k + 1) + x < 2 ^ 31 by omega), nI_1]
              refine ⟨fun z => ?_, fun z => ⟨hv2, ?_⟩⟩
              · simp only [bsW] at nx
                rw [if_neg (fun u => z u.1)] at nx
                exact nx
              · have z' := Classical.not_not.mp z
                have cx := csW_le (s := t) hb hd1 (show x < 3 by omega)
                rw [cs_sum hb (by omega) z' (h1 (k + 1) (Nat.le_refl _) hd1), nI_leI (by omega) (by omega)]
                simp only [bsW] at nx
                refine ⟨fun w => ?_, fun w => ⟨hv2, ?_⟩⟩
                · rw [if_neg (fun u => by omega)] at nx; exact nx
                · rw [if_pos ⟨z', by omega⟩] at nx; exact nx
          exact lp 3 0 (by omega)
    refine w_X9_prices_188 hA ⟨fun z => absurd z (nI_pos (by omega)), fun _ => ?_⟩
    have := inn 3 0 I1 (by omega) (fun d q1 q2 => hr d q1 q2) (fun u hu => by omega) hS
    rw [nI_0] at this
    exact this
theorem ct_prices (hA : At9 sh R m) (hV : V_prc Rs) (hM : PrM I m s Rs) (h18 : I m 18 = nI s) (hW : WyM I m H D K ho ld wh) (hb : (H ≤ 6 ∧ D ≤ 36 ∧ K ≤ 40) ∧ (∀ j, j < D → ho j < H) ∧ ∀ j, j < K → ld j < D ∧ wh j < 3) (hn : n ≤ K) :
    ∃ I', rMet γ l m_X9_prices [.ref m, .int (nI n)] (sh, I, J, R) (sh, I', J, R) none ∧ CsM I' m D (ocN Rs ho) (scN Rs ho) ∧ (∀ d, d < D → RsM I' m D (ocN Rs ho) (scN Rs ho) (dbN (dcN Rs ho ld wh) ld wh n) d) ∧ Sm (Pmp m) I I' := by
  obtain ⟨⟨w1, w2, w3⟩, w4, w5⟩ := id hW
  obtain ⟨⟨b1, b2, b3⟩, b4, b5⟩ := hb
  have hBw : Bw D (ocN Rs ho) (scN Rs ho) (dbN (dcN Rs ho ld wh) ld wh n) := by
    refine ⟨b2, fun d _ => ⟨fw10.2, fw10.2, fun s _ => ?_⟩⟩
    have := dbN_le (dc := dcN Rs ho ld wh) (ld := ld) (wh := wh) n (fun i _ => fw10.2) d s
    omega
  -- the looks
  have p2 : ∀ j k (I1 : Nat → Nat → Int32), k + j = n → CsM I1 m D (ocN Rs ho) (scN Rs ho) → (∀ d t, d < D → t < 3 → I1 (m + 49) (3 * d + t) = nI (dbN (dcN Rs ho ld wh) ld wh k d t)) → Sm (Pmp m) I I1 → s_X9_prices_94 γ l m (nI n) (nI k) (sh, I1, J, R) (fun hf v => ∃ I', hf = (sh, I', J, R) ∧ v = none ∧ (CsM I' m D (ocN Rs ho) (scN Rs ho) ∧ (∀ d, d < D → RsM I' m D (ocN Rs ho) (scN Rs ho) (dbN (dcN Rs ho ld wh) ld wh n) d) ∧ Sm (Pmp m) I I')) := by
    intro j
    induction j with
    | zero =>
      intro k I1 hk hC hd hS
      have e : k = n := by omega
      subst e
      have h71 : I1 m 71 = nI D := (hS _ _ (by unfold Pmp; omega)).trans w2
      refine w_X9_prices_94 hA ⟨fun _ => ?_, fun z => absurd (nI_le (Nat.le_refl _) (by omega)) z⟩
      rw [h71]
      obtain ⟨hf, v, r1, I', r2, r3, r4, r5⟩ := prices3 (γ := γ) (l := l) (J := J) hA hBw h71 hC hd D I1 (Nat.le_refl _) (fun d q1 q2 => by omega) Sm.rf
      exact ⟨hf, v, r1, I', r2, r3, fun d hd => ⟨(r5 _ _ (by simp)).trans (hC d hd).1, (r5 _ _ (by simp)).trans (hC d hd).2⟩, r4, hS.tr (r5.mono (fun b j q => by unfold Pmp; omega))⟩
    | succ j ih =>
      intro k I1 hk hC hd hS
      obtain ⟨q1, q2⟩ := w5 k (by omega)
      obtain ⟨q3, q4⟩ := b5 k (by omega)
      have hv : vp_in (nI k) 40 := vp_in_nI (by omega) (by decide)
      have o1 : I1 (m + 47) k = nI (ld k) := (hS _ _ (by unfold Pmp; omega)).trans q1
      have o2 : I1 (m + 48) k = nI (wh k) := (hS _ _ (by unfold Pmp; omega)).trans q2
      have o3 : I1 (m + 46) (ld k) = nI (ho (ld k)) := (hS _ _ (by unfold Pmp; omega)).trans (w4 (ld k) q3)
      have hM1 : PrM I1 m s Rs := hM.loc (fun b j q1 q2 => hS b j (by unfold Pmp; omega))
      obtain ⟨I2, I3, c1, c2, c3⟩ := ask_m (γ := γ) (l := l) (J := J) (x1 := 9) (x2 := 0) (x3 := nI (ld k)) (x4 := nI (ho (ld k))) (x5 := nI (wh k)) (srt := 5) hA hV hM1 ((hS _ _ (by unfold Pmp; omega)).trans h18) (by decide)
      have hS3 : Sm (Pmp m) I I3 := hS.tr (c3.mono (fun b j q => by unfold Pmp; omega))
      have inn : ∀ j2 t (I4 : Nat → Nat → Int32), t + j2 = 3 → CsM I4 m D (ocN Rs ho) (scN Rs ho) → (∀ d u, d < D → u < 3 → I4 (m + 49) (3 * d + u) = nI (dbN (dcN Rs ho ld wh) ld wh k d u + (if ld k = d ∧ ¬ wh k = u ∧ u < t then dcN Rs ho ld wh k else 0))) → Sm (Pmp m) I I4 → s_X9_prices_136 γ l m (nI n) (nI k) (nI (ld k)) (nI (dcN Rs ho ld wh k)) (nI t) (sh, I4, J, R) (fun hf v => ∃ I', hf = (sh, I', J, R) ∧ v = none ∧ (CsM I' m D (ocN Rs ho) (scN Rs ho) ∧ (∀ d, d < D → RsM I' m D (ocN Rs ho) (scN Rs ho) (dbN (dcN Rs ho ld wh) ld wh n) d) ∧ Sm (Pmp m) I I')) := by
        intro j2
        induction j2 with
        | zero =>
          intro t I4 ht hC4 hd4 hS4
          have e : t = 3 := by omega
          subst e
          refine w_X9_prices_136 hA ⟨fun _ => ?_, fun z => absurd (by decide) z⟩
          rw [nI_1]
          refine ih (k + 1) I4 (by omega) hC4 (fun d u h1 h2 => ?_) hS4
          rw [hd4 d u h1 h2]
          congr 1
          simp only [dbN]
          by_cases q : ld k = d ∧ ¬ wh k = u
          · rw [if_pos ⟨q.1, q.2, h2⟩, if_pos q]
          · rw [if_neg (fun t => q ⟨t.1, t.2.1⟩), if_neg q]
        | succ j2 ih2 =>
          intro t I4 ht hC4 hd4 hS4
          have v7 : vp_in (nI (3 * ld k + t)) 108 := vp_in_nI (by omega) (by decide)
          have o4 : I4 (m + 48) k = nI (wh k) := (hS4 _ _ (by unfold Pmp; omega)).trans q2
          refine w_X9_prices_136 hA ⟨fun z => absurd z (nI_ge (show t < 3 by omega) (by decide)), fun _ => ⟨hv, ?_⟩⟩
          rw [nI_clamp (show k < 2 ^ 31 by omega), o4, e3, nI_clamp (show 3 * ld k + t < 2 ^ 31 by omega), nI_eq (by omega) (by omega), nI_1]
          refine ⟨fun z => ih2 (t + 1) I4 (by omega) hC4 (fun d u h1 h2 => ?_) hS4, fun z => ⟨v7, v7, ih2 (t + 1) _ (by omega) (fun d hd => ?_) (fun d u h1 h2 => ?_) (hS4.up (by unfold Pmp; omega))⟩⟩
          · rw [hd4 d u h1 h2]
            congr 2
            by_cases q : ld k = d ∧ ¬ wh k = u ∧ u < t
            · rw [if_pos q, if_pos ⟨q.1, q.2.1, by omega⟩]
            · rw [if_neg q, if_neg (fun w => q ⟨w.1, w.2.1, by have := w.2.1; omega⟩)]
          · exact ⟨by rw [up_at, if_neg (by omega)]; exact (hC4 d hd).1, by rw [up_at, if_neg (by omega)]; exact (hC4 d hd).2⟩
          · by_cases e : d = ld k ∧ u = t
            · obtain ⟨e1, e2⟩ := e
              subst e1; subst e2
              rw [up_at, if_pos ⟨rfl, rfl⟩, hd4 _ _ h1 h2, nI_add]
              congr 1
              rw [if_neg (fun w => by omega), if_pos ⟨rfl, fun w => z w.symm, by omega⟩]
              omega
            · rw [up_at, if_neg (by omega), hd4 d u h1 h2]
              congr 2
              by_cases q : ld k = d ∧ ¬ wh k = u ∧ u < t
              · rw [if_pos q, if_pos ⟨q.1, q.2.1, by omega⟩]
              · rw [if_neg q, if_neg (fun w => q ⟨w.1, w.2.1, by have := w.1; omega⟩)]
      refine w_X9_prices_94 hA ⟨fun z => absurd z (nI_ge (by omega) (by omega)), fun _ => ⟨hv, ?_⟩⟩
      rw [nI_clamp (show k < 2 ^ 31 by omega), o1, o2, nI_clamp (show ld k < 2 ^ 31 by omega), o3]
      refine ⟨vp_in_nI (by omega) (by decide), hv, I2, c1, I3, _, c2, ?_⟩
      have := inn 3 0 I3 (by omega) (fun d hd => ⟨(c3 _ _ (by omega)).trans (hC d hd).1, (c3 _ _ (by omega)).trans (hC d hd).2⟩) (fun d u h1 h2 => by rw [c3 _ _ (by omega), hd d u h1 h2, if_neg (fun w => by omega)]; rfl) hS3
      rw [nI_0, show nI (dcN Rs ho ld wh k) = fwJ (vr5 9 0 (nI (ld k)) (nI (ho (ld k))) (nI (wh k))) 5 10 Rs from fw10.1.symm] at this
      exact this
  -- the days
  have p1 : ∀ j k (I1 : Nat → Nat → Int32), k + j = D → (∀ d, d < k → I1 (m + 52) d = nI (ocN Rs ho d) ∧ I1 (m + 53) d = nI (scN Rs ho d) ∧ ∀ t, t < 3 → I1 (m + 49) (3 * d + t) = 0) → Sm (Pmp m) I I1 → s_X9_prices_2 γ l m (nI n) (nI k) (sh, I1, J, R) (fun hf v => ∃ I', hf = (sh, I', J, R) ∧ v = none ∧ (CsM I' m D (ocN Rs ho) (scN Rs ho) ∧ (∀ d, d < D → RsM I' m D (ocN Rs ho) (scN Rs ho) (dbN (dcN Rs ho ld wh) ld wh n) d) ∧ Sm (Pmp m) I I')) := by
    intro j
    induction j with
    | zero =>
      intro k I1 hk hd hS
      have e : k = D := by omega
      subst e
      refine w_X9_prices_2 hA ⟨fun _ => ?_, fun z => absurd ?_ z⟩
      · have := p2 n 0 I1 (by omega) (fun d h => ⟨(hd d h).1, (hd d h).2.1⟩) (fun d t h1 h2 => by rw [(hd d h1).2.2 t h2]; exact nI_0.symm) hS
        rw [nI_0] at this
        exact this
      · rw [hS m 71 (by unfold Pmp; omega), w2]; exact nI_le (Nat.le_refl _) (by omega)
    | succ j ih =>
      intro k I1 hk hd hS
      have hv : vp_in (nI k) 36 := vp_in_nI (by omega) (by decide)
      have o1 : I1 (m + 46) k = nI (ho k) := (hS _ _ (by unfold Pmp; omega)).trans (w4 k (by omega))
      have hM1 : PrM I1 m s Rs := hM.loc (fun b j q1 q2 => hS b j (by unfold Pmp; omega))
      have h18' : I1 m 18 = nI s := (hS _ _ (by unfold Pmp; omega)).trans h18
      obtain ⟨I2, I3, c1, c2, c3⟩ := ask_m (γ := γ) (l := l) (J := J) (x1 := 7) (x2 := 0) (x3 := nI k) (x4 := nI (ho k)) (x5 := 0) (srt := 4) hA hV hM1 h18' (by decide)
      have hM2 : PrM (up I3 (m + 52) k (fwJ (vr5 7 0 (nI k) (nI (ho k)) 0) 4 10 Rs)) m s Rs := hM1.loc (fun b j q1 q2 => by rw [up_at, if_neg (by omega)]; exact c3 b j (by omega))
      obtain ⟨I4, I5, e1, e2, e3'⟩ := ask_m (γ := γ) (l := l) (J := J) (x1 := 8) (x2 := 0) (x3 := nI k) (x4 := nI (ho k)) (x5 := 0) (srt := 4) hA hV hM2 (by rw [up_at, if_neg (by omega), c3 _ _ (by omega)]; exact h18') (by decide)
      have inn : ∀ j2 t (I6 : Nat → Nat → Int32), t + j2 = 3 → (∀ d, d < k → I6 (m + 52) d = nI (ocN Rs ho d) ∧ I6 (m + 53) d = nI (scN Rs ho d) ∧ ∀ t, t < 3 → I6 (m + 49) (3 * d + t) = 0) → (I6 (m + 52) k = nI (ocN Rs ho k) ∧ I6 (m + 53) k = nI (scN Rs ho k) ∧ ∀ u, u < t → I6 (m + 49) (3 * k + u) = 0) → Sm (Pmp m) I I6 → s_X9_prices_64 γ l m (nI n) (nI k) (nI t) (sh, I6, J, R) (fun hf v => ∃ I', hf = (sh, I', J, R) ∧ v = none ∧ (CsM I' m D (ocN Rs ho) (scN Rs ho) ∧ (∀ d, d < D → RsM I' m D (ocN Rs ho) (scN Rs ho) (dbN (dcN Rs ho ld wh) ld wh n) d) ∧ Sm (Pmp m) I I')) := by
        intro j2
        induction j2 with
        | zero =>
          intro t I6 ht h1 h2 h3
          have e : t = 3 := by omega
          subst e
          refine w_X9_prices_64 hA ⟨fun _ => ?_, fun z => absurd (by decide) z⟩
          rw [nI_1]
          refine ih (k + 1) I6 (by omega) (fun d hd2 => ?_) h3
          by_cases e : d = k
          · subst e; exact h2
          · exact h1 d (by omega)
        | succ j2 ih2 =>
          intro t I6 ht h1 h2 h3
          refine w_X9_prices_64 hA ⟨fun z => absurd z (nI_ge (show t < 3 by omega) (by decide)), fun _ => ?_⟩
          rw [e3, nI_clamp (show 3 * k + t < 2 ^ 31 by omega), nI_1]
          refine ⟨vp_in_nI (by omega) (by decide), ih2 (t + 1) _ (by omega) (fun d hd2 => ⟨?_, ?_, fun u hu => ?_⟩) ⟨?_, ?_, fun u hu => ?_⟩ (h3.up (by unfold Pmp; omega))⟩
          · rw [up_at, if_neg (by omega)]; exact (h1 d hd2).1
          · rw [up_at, if_neg (by omega)]; exact (h1 d hd2).2.1
          · rw [up_at, if_neg (by omega)]; exact (h1 d hd2).2.2 u hu
          · rw [up_at, if_neg (by omega)]; exact h2.1
          · rw [up_at, if_neg (by omega)]; exact h2.2.1
          · by_cases e : u = t
            · subst e; rw [up_at, if_pos ⟨rfl, rfl⟩]
            · rw [up_at, if_neg (by omega)]; exact h2.2.2 u (by omega)
      refine w_X9_prices_2 hA ⟨fun z => absurd z ?_, fun _ => ⟨hv, ?_⟩⟩
      · rw [hS m 71 (by unfold Pmp; omega), w2]; exact nI_ge (by omega) (by omega)
      · rw [nI_clamp (show k < 2 ^ 31 by omega), o1]
        refine ⟨I2, c1, I3, _, c2, hv, hv, I4, ?_, I5, _, e2, hv, ?_⟩
        · rw [up_at, if_neg (by omega), c3 _ _ (by omega), o1]; exact e1
        · have := inn 3 0 (up I5 (m + 53) k (fwJ (vr5 8 0 (nI k) (nI (ho k)) 0) 4 10 Rs)) (by omega) (fun d hd2 => ⟨?_, ?_, fun u hu => ?_⟩) ⟨?_, ?_, fun u hu => by omega⟩ ?_
          · rw [nI_0] at this; exact this
          · rw [up_at, if_neg (by omega), e3' _ _ (by omega), up_at, if_neg (by omega), c3 _ _ (by omega)]; exact (hd d hd2).1
          · rw [up_at, if_neg (by omega), e3' _ _ (by omega), up_at, if_neg (by omega), c3 _ _ (by omega)]; exact (hd d hd2).2.1
          · rw [up_at, if_neg (by omega), e3' _ _ (by omega), up_at, if_neg (by omega), c3 _ _ (by omega)]; exact (hd d hd2).2.2 u hu
          · rw [up_at, if_neg (by omega), e3' _ _ (by omega), up_at, if_pos ⟨rfl, rfl⟩]; exact fw10.1
          · rw [up_at, if_pos ⟨rfl, rfl⟩]; exact fw10.1
          · exact (((hS.tr (c3.mono (fun b j q => by unfold Pmp; omega))).up (by unfold Pmp; omega)).tr (e3'.mono (fun b j q => by unfold Pmp; omega))).up (by unfold Pmp; omega)
  have l0 := p1 D 0 I (by omega) (fun d hd => by omega) Sm.rf
  rw [nI_0] at l0
  obtain ⟨I', h1, h2⟩ := rW_ex (w_X9_prices_0 hA l0)
  exact ⟨I', e_X9_prices h1, h2⟩
theorem ct_tellsTale (hA : At9 sh R m) (hV : V_prc Rs) (hM : PrM I m s Rs) (h18 : I m 18 = nI s) (hW : WyM I m H D K ho ld wh) (hb : (H ≤ 6 ∧ D ≤ 36 ∧ K ≤ 40) ∧ (∀ j, j < D → ho j < H) ∧ ∀ j, j < K → ld j < D ∧ wh j < 3) (hn : n ≤ K) :
    ∃ I', rMet γ l m_X9_tellsTale [.ref m, .int (nI n)] (sh, I, J, R) (sh, I', J, R) none ∧ (∀ d, d < D → I' (m + 54) d = nI (stW D (ocN Rs ho) (scN Rs ho) (dbN (dcN Rs ho ld wh) ld wh n) (d + 1))) ∧ Sm (fun b j => Pmp m b j ∨ b = m + 54) I I' := by
  obtain ⟨I1, c1, c2, c3, c4⟩ := ct_prices (γ := γ) (l := l) (J := J) hA hV hM h18 hW hb hn
  obtain ⟨⟨b1, b2, b3⟩, b4, b5⟩ := hb
  have hBw : Bw D (ocN Rs ho) (scN Rs ho) (dbN (dcN Rs ho ld wh) ld wh n) := by
    refine ⟨b2, fun d _ => ⟨fw10.2, fw10.2, fun s _ => ?_⟩⟩
    have := dbN_le (dc := dcN Rs ho ld wh) (ld := ld) (wh := wh) n (fun i _ => fw10.2) d s
    omega
  have e71 : I1 m 71 = nI D := (c4 _ _ (by unfold Pmp; omega)).trans hW.1.2.1
  generalize dbN (dcN Rs ho ld wh) ld wh n = db at *
  generalize ocN Rs ho = oc at *
  generalize scN Rs ho = sc at *
  have lp : ∀ j k (I2 : Nat → Nat → Int32), k + j = D → (∀ d, d < k → I2 (m + 54) d = nI (stW D oc sc db (d + 1))) → Sm (fun b _ => b = m + 54) I1 I2 → s_X9_tellsTale_9 γ l m (nI (stW D oc sc db k)) (nI k) (sh, I2, J, R) (fun hf v => ∃ I', hf = (sh, I', J, R) ∧ v = none ∧ ((∀ d, d < D → I' (m + 54) d = nI (stW D oc sc db (d + 1))) ∧ Sm (fun b _ => b = m + 54) I1 I')) := by
    intro j
    induction j with
    | zero =>
      intro k I2 hk h1 h2
      have e : k = D := by omega
      subst e
      refine w_X9_tellsTale_9 hA ⟨fun _ => ⟨I2, rfl, rfl, h1, h2⟩, fun z => absurd ?_ z⟩
      rw [h2 m 71 (by simp), e71]; exact nI_le (Nat.le_refl _) (by omega)
    | succ j ih =>
      intro k I2 hk h1 h2
      have hs := st_lt (D := D) (oc := oc) (sc := sc) (db := db) k
      have en : stW D oc sc db (k + 1) = nxW D oc sc db k (stW D oc sc db k) := rfl
      generalize stW D oc sc db k = f at hs en
      have hC2 : CsM I2 m D oc sc := fun d hd => ⟨(h2 _ _ (by simp)).trans (c2 d hd).1, (h2 _ _ (by simp)).trans (c2 d hd).2⟩
      have hr2 : RsM I2 m D oc sc db k := fun x hx => (h2 _ _ (by simp)).trans (c3 k (by omega) x hx)
      have lb := LW_le (idl := fun _ => false) hBw (D - k) (by omega) f hs
      have inn : ∀ j2, j2 ≤ 3 → s_X9_tellsTale_31 γ l m (nI f) (nI k) (nI (LW D oc sc db (fun _ => false) (D - k) f)) (nbW D oc sc db k f j2) (nI (3 - j2) - 1) (sh, I2, J, R) (fun hf v => ∃ I', hf = (sh, I', J, R) ∧ v = none ∧ ((∀ d, d < D → I' (m + 54) d = nI (stW D oc sc db (d + 1))) ∧ Sm (fun b _ => b = m + 54) I1 I')) := by
        have st : ∀ i, i ≤ 3 → s_X9_tellsTale_31 γ l m (nI f) (nI k) (nI (LW D oc sc db (fun _ => false) (D - k) f)) (nbW D oc sc db k f (3 - i)) (nI i - 1) (sh, I2, J, R) (fun hf v => ∃ I', hf = (sh, I', J, R) ∧ v = none ∧ ((∀ d, d < D → I' (m + 54) d = nI (stW D oc sc db (d + 1))) ∧ Sm (fun b _ => b = m + 54) I1 I')) := by
          intro i
          induction i with
          | zero =>
            intro _
            refine w_X9_tellsTale_31 hA ⟨fun _ => ⟨vp_in_nI (by omega) (by decide), ?_⟩, fun z => absurd (by decide) z⟩
            have nx := ih (k + 1) (up I2 (m + 54) k (nI (nxW D oc sc db k f))) (by omega) (fun d hd => by
              by_cases e : d = k
              · subst e; rw [up_at, if_pos ⟨rfl, rfl⟩, en]
              · rw [up_at, if_neg (by omega)]; exact h1 d (by omega)) (h2.up rfl)
            rw [nI_clamp (by omega), nI_1, show 3 - 0 = 3 from rfl, nb_nx (by omega) hs]
            rw [en] at nx
            exact nx
          | succ i ihi =>
            intro hi
            have nx := ihi (by omega)
            rw [nI_pred]
            have hv : vp_in (nI (3 * k + i)) 108 := vp_in_nI (by omega) (by decide)
            have e3i : 3 - i = 3 - (i + 1) + 1 := by omega
            have e2i : 2 - (3 - (i + 1)) = i := by omega
            have em1 : nI i + (-1 : Int32) = nI i - 1 := by rw [Int32.sub_eq_add_neg]
            have step : nbW D oc sc db k f (3 - i) = @ite _ ((i = f ∨ i = othS f) ∧ csW D oc sc db k f i = LW D oc sc db (fun _ => false) (D - k) f) (Classical.propDecidable _) (nI i) (nbW D oc sc db k f (3 - (i + 1))) := by
              rw [e3i]
              simp only [nbW]
              rw [e2i]
            refine w_X9_tellsTale_31 hA ⟨fun z => absurd z (nI_pos (by omega)), fun _ => ⟨_, ct_change hA b2 hC2 (show k < D by omega) hs (by omega), ?_⟩⟩
            rw [far_iff hBw (show k < D by omega), e3, nI_clamp (show 3 * k + i < 2 ^ 31 by omega), em1]
            refine ⟨fun z => ?_, fun z => ⟨hv, ?_⟩⟩
            · rw [step, if_neg (fun u => z u.1)] at nx; exact nx
            · have z' := Classical.not_not.mp z
              have cx := csW_le (s := f) hBw (show k < D by omega) (show i < 3 by omega)
              rw [cs_sum hBw (by omega) z' hr2, nI_eq (by omega) (by omega)]
              refine ⟨fun y => ?_, fun y => ?_⟩
              · rw [step, if_pos ⟨z', y⟩] at nx; exact nx
              · rw [step, if_neg (fun u => y u.2)] at nx; exact nx
        intro j2 hj2
        have := st (3 - j2) (by omega)
        rw [show 3 - (3 - j2) = j2 by omega] at this
        exact this
      refine w_X9_tellsTale_9 hA ⟨fun z => absurd z ?_, fun _ => ⟨_, ct_mleast hA hBw hC2 (show k < D by omega) hs hr2, ?_⟩⟩
      · rw [h2 m 71 (by simp), e71]; exact nI_ge (by omega) (by omega)
      · have := inn 0 (by omega)
        rw [show nI (3 - 0) - (1 : Int32) = 2 from by decide] at this
        exact this
  have l0 := lp D 0 I1 (by omega) (fun d hd => by omega) Sm.rf
  obtain ⟨I', h1, h2, h3⟩ := rW_ex (w_X9_tellsTale_0 hA ⟨I1, c1, l0⟩)
  exact ⟨I', e_X9_tellsTale h1, h2, (c4.mono (fun b j q => Or.inl q)).tr (h3.mono (fun b j q => Or.inr q))⟩
theorem ct_isKnown {x : Int32} (hA : At9 sh R m) (hW : WyM I m H D K ho ld wh) : rMet γ l m_X9_isKnown [.ref m, .int x] (sh, I, J, R) (sh, I, J, R) (some (.int (bz (¬ x < 0 ∧ x ≤ nI K)))) := by
  refine e_X9_isKnown (rW_pure (w_X9_isKnown_0 hA ?_))
  rw [hW.1.2.2]
  refine ⟨fun z => ⟨rfl, ?_⟩, fun z => ⟨fun y => ⟨rfl, ?_⟩, fun y => ⟨rfl, ?_⟩⟩⟩
  · rw [bz_f (fun w => w.1 z)]
  · rw [bz_f (fun w => Int32.not_le.mpr y w.2)]
  · rw [bz_t ⟨z, Int32.not_lt.mp y⟩]
theorem ct_knows {a : Nat} {x : Int32} (hA : At7 sh R a) (hW : WyC I a H D K ho ld wh) : rMet γ l m_X7_knows [.ref a, .int x] (sh, I, J, R) (sh, I, J, R) (some (.int (bz (¬ x < 0 ∧ x ≤ nI K)))) := by
  refine e_X7_knows (rW_pure (w_X7_knows_0 hA ?_))
  rw [hW.2.1.2.2]
  refine ⟨fun z => ⟨rfl, ?_⟩, fun z => ⟨fun y => ⟨rfl, ?_⟩, fun y => ⟨rfl, ?_⟩⟩⟩
  · rw [bz_f (fun w => w.1 z)]
  · rw [bz_f (fun w => Int32.not_le.mpr y w.2)]
  · rw [bz_t ⟨z, Int32.not_lt.mp y⟩]
end MKN
