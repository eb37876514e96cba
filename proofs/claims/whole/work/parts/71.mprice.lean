/-! ===== prices: how the model holds and runs them ===== -/
def SegM (I : Nat → Nat → Int32) (m : Nat) : Nat → List Itm → Prop
  | _, [] => True
  | f, t :: L => (I (m + 20) f = nI t.1 ∧ I (m + 21) f = nI t.2) ∧ SegM I m (f + 1) L
theorem SegM.loc {I I' : Nat → Nat → Int32} {m : Nat} : ∀ (L : List Itm) (f : Nat), SegM I m f L → (∀ b j, (b = m + 20 ∨ b = m + 21) → f ≤ j → j < f + L.length → I' b j = I b j) → SegM I' m f L := by
  intro L
  induction L with
  | nil => intro f _ _; trivial
  | cons t L ih =>
    intro f h hq
    refine ⟨⟨(hq _ f (Or.inl rfl) (Nat.le_refl _) (by simp)).trans h.1.1, (hq _ f (Or.inr rfl) (Nat.le_refl _) (by simp)).trans h.1.2⟩, ih (f + 1) h.2 (fun b j h0 h1 h2 => hq b j h0 (by omega) (by simp at h2 ⊢; omega))⟩
def RelM (I : Nat → Nat → Int32) (m s k : Nat) (r : Rl) : Prop := ∃ f, f + r.2.2.1.length + r.2.2.2.length ≤ 1000 ∧ I (m + 15) (200 * s + k) = nI r.2.1 ∧ I (m + 16) (200 * s + k) = nI f ∧ I (m + 17) (200 * s + k) = nI (f + r.2.2.1.length) ∧ I (m + 18) (200 * s + k) = nI (f + r.2.2.1.length + r.2.2.2.length) ∧ I (m + 19) (200 * s + k) = nz r.1 ∧ SegM I m f r.2.2.1 ∧ SegM I m (f + r.2.2.1.length) r.2.2.2
def RelsM (I : Nat → Nat → Int32) (m s : Nat) : Nat → List Rl → Prop
  | _, [] => True
  | k, r :: t => RelM I m s k r ∧ RelsM I m s (k + 1) t
theorem RelM.loc {I I' : Nat → Nat → Int32} {m s k : Nat} {r : Rl} (h : RelM I m s k r) (hq : ∀ b j, m + 15 ≤ b → b < m + 22 → I' b j = I b j) : RelM I' m s k r := by
  obtain ⟨f, q1, q2, q3, q4, q5, q6, q7, q8⟩ := h
  exact ⟨f, q1, (hq _ _ (by omega) (by omega)).trans q2, (hq _ _ (by omega) (by omega)).trans q3, (hq _ _ (by omega) (by omega)).trans q4, (hq _ _ (by omega) (by omega)).trans q5, (hq _ _ (by omega) (by omega)).trans q6, q7.loc _ _ (fun b j h _ _ => hq b j (by omega) (by omega)), q8.loc _ _ (fun b j h _ _ => hq b j (by omega) (by omega))⟩
theorem RelsM.loc {I I' : Nat → Nat → Int32} {m s : Nat} (hq : ∀ b j, m + 15 ≤ b → b < m + 22 → I' b j = I b j) : ∀ (t : List Rl) (k : Nat), RelsM I m s k t → RelsM I' m s k t := by
  intro t
  induction t with
  | nil => intro k _; trivial
  | cons r t ih => intro k h; exact ⟨h.1.loc hq, ih (k + 1) h.2⟩
/-- the model's rules on side s -/
def PrM (I : Nat → Nat → Int32) (m s : Nat) (Rs : List Rul) : Prop := s < 2 ∧ I (m + 8) s = nI Rs.length ∧ ∀ r, r < Rs.length → ∃ f k, (f + (gR Rs r).2.1.length ≤ 1000 ∧ k + (gR Rs r).2.2.length ≤ 200) ∧ I (m + 9) (16 * s + r) = nI (gR Rs r).1 ∧ I (m + 10) (16 * s + r) = nI f ∧ I (m + 11) (16 * s + r) = nI (f + (gR Rs r).2.1.length) ∧ I (m + 12) (16 * s + r) = nI k ∧ I (m + 13) (16 * s + r) = nI (k + (gR Rs r).2.2.length) ∧ SegM I m f (gR Rs r).2.1 ∧ RelsM I m s k (gR Rs r).2.2
theorem PrM.loc {I I' : Nat → Nat → Int32} {m s : Nat} {Rs : List Rul} (h : PrM I m s Rs) (hq : ∀ b j, m + 8 ≤ b → b < m + 22 → I' b j = I b j) : PrM I' m s Rs := by
  refine ⟨h.1, (hq _ _ (by omega) (by omega)).trans h.2.1, fun r hr => ?_⟩
  obtain ⟨f, k, q1, q2, q3, q4, q5, q6, q7, q8⟩ := h.2.2 r hr
  exact ⟨f, k, q1, (hq _ _ (by omega) (by omega)).trans q2, (hq _ _ (by omega) (by omega)).trans q3, (hq _ _ (by omega) (by omega)).trans q4, (hq _ _ (by omega) (by omega)).trans q5, (hq _ _ (by omega) (by omega)).trans q6, q7.loc _ _ (fun b j h _ _ => hq b j (by omega) (by omega)), RelsM.loc (fun b j h1 h2 => hq b j (by omega) h2) _ _ q8⟩
section PRM
variable {γ : rG} {l : Launch} {sh : Nat × (Nat → Nat) × (Nat → Nat)} {I : Nat → Nat → Int32} {J : Nat → Nat → Int64} {R : Nat → Nat → Option Nat} {m s : Nat} {vr : Nat → Int32} {Rs : List Rul}
theorem value_loop (hA : At9 sh R m) (hvr : ∀ i, i < 5 → I (m + 23) i = vr i) (w : Int32) : ∀ (L : List Itm) (i : Nat) (st : List Int32) (I1 : Nat → Nat → Int32), (∀ t ∈ L, okJ t ∧ t.1 < 5) → i + L.length ≤ 1000 → SegM I m i L → (∀ b j, b ≠ m + 24 → I1 b j = I b j) → StkJ I1 (m + 24) st → st.length ≤ 32 → depJ L st.length 1 → runJ vr L st = [w] →
    s_X9_value_5 γ l m (nI (i + L.length)) (nI st.length) (nI i) (sh, I1, J, R) (fun hf v => ∃ I', hf = (sh, I', J, R) ∧ v = some (.int w) ∧ Sm (fun b _ => b = m + 24) I I') := by
  intro L
  induction L with
  | nil =>
    intro i st I1 _ hlen _ hI1 hS _ hd hr
    have hlen : i ≤ 1000 := hlen
    refine w_X9_value_5 hA ⟨fun _ => ⟨pk_in 0 500 (by decide), I1, rfl, ?_, fun b j q => hI1 b j q⟩, fun z => absurd (nI_le (by simp) (show i < 2 ^ 31 by omega)) z⟩
    have hr' : st = [w] := hr
    subst hr'
    have := hS.1
    simp at this
    rw [show (0 : Int32).toNatClampNeg = 0 from by decide, this]
  | cons t L ih =>
    intro i st I1 hok hlen hseg hI1 hS hs32 hd hr
    have hok' : ∀ x ∈ L, okJ x ∧ x.1 < 5 := fun x hx => hok x (by simp [hx])
    have hlen' : i + 1 + L.length ≤ 1000 := by simp at hlen; omega
    have est : I1 (m + 20) i = nI t.1 := (hI1 _ _ (by omega)).trans hseg.1.1
    have esv : I1 (m + 21) i = nI t.2 := (hI1 _ _ (by omega)).trans hseg.1.2
    have elen : i + (t :: L).length = i + 1 + L.length := by simp; omega
    have hot := hok t (by simp)
    have hg : ¬ nI (i + 1 + L.length) ≤ nI i := nI_ge (by omega) (by omega)
    have vi : vp_in (nI i) 1000 := vp_in_nI (by omega) (by decide)
    rw [elen]
    rcases hd with ⟨d1, d2, d3⟩ | ⟨d1, d2, d3⟩
    · have go : ∀ v : Int32, v = (if t.1 = 0 then nI t.2 else vr t.2) → s_X9_value_5 γ l m (nI (i + 1 + L.length)) (nI (st.length + 1)) (nI (i + 1)) (sh, up I1 (m + 24) st.length v, J, R) (fun hf v => ∃ I', hf = (sh, I', J, R) ∧ v = some (.int w) ∧ Sm (fun b _ => b = m + 24) I I') := by
        intro v hv
        have := ih (i + 1) (v :: st) (up I1 (m + 24) st.length v) hok' hlen' hseg.2 (fun b j q => by rw [up_at, if_neg (fun z => q z.1)]; exact hI1 b j q) hS.push (by simp; omega) (by simpa using d3) (by
          have e : runJ vr (t :: L) st = runJ vr L (v :: st) := by simp only [runJ, stpJ, if_pos d1, hv]
          rw [← e]; exact hr)
        simpa using this
      have vs : vp_in (nI st.length) 500 := vp_in_nI (by omega) (by decide)
      refine w_X9_value_5 hA ⟨fun z => absurd z hg, fun _ => ⟨vi, ?_⟩⟩
      rw [nI_clamp (show i < 2 ^ 31 by omega), est, esv]
      refine ⟨fun z => absurd z (nI_ge (show t.1 < 2 by omega) (by decide)), fun _ => ⟨vi, ?_⟩⟩
      rcases hot.1 with ⟨o1, o2⟩ | ⟨o1, o2⟩ | ⟨o1, o2⟩
      · rw [o1]
        refine ⟨fun _ => ⟨vi, vs, ?_⟩, fun z => absurd (by decide) z⟩
        rw [nI_clamp (show st.length < 2 ^ 31 by omega), nI_1, nI_1]
        exact go _ (by rw [if_pos o1])
      · rw [o1]
        refine ⟨fun z => absurd z (by decide), fun _ => ⟨vi, vp_in_nI o2 (by decide), vs, ?_⟩⟩
        rw [nI_clamp (show st.length < 2 ^ 31 by omega), nI_clamp (show t.2 < 2 ^ 31 by omega), nI_1, nI_1]
        exact go _ (by rw [if_neg (by omega), hI1 _ _ (by omega)]; exact hvr _ o2)
      · omega
    · have o2 : t.1 = 2 ∨ t.1 = 3 ∨ t.1 = 4 := by have := hot.2; omega
      match st, hS, hs32, d2, d3, hr with
      | [], _, _, d2, _, _ => simp at d2
      | [_], _, _, d2, _, _ => simp at d2
      | y :: x :: r, hS, hs32, d2, d3, hr =>
        have hy := hS.1
        have hx := hS.2.1
        simp only [List.length_cons] at hy hs32 d3
        have e1 : nI (y :: x :: r).length + (-1 : Int32) = nI (r.length + 1) := pk_m1 _
        have e2 : nI (r.length + 1) - (1 : Int32) = nI r.length := nI_pred _
        have nx := ih (i + 1) (opJ t.1 x y :: r) (up I1 (m + 24) r.length (opJ t.1 x y)) hok' hlen' hseg.2 (fun b j q => by rw [up_at, if_neg (fun z => q z.1)]; exact hI1 b j q) hS.2.2.push (by simp; omega) (by simpa using d3) (by
          have e : runJ vr (t :: L) (y :: x :: r) = runJ vr L (opJ t.1 x y :: r) := by simp only [runJ, stpJ, if_neg (show ¬ t.1 < 2 by omega)]
          rw [← e]; exact hr)
        refine w_X9_value_5 hA ⟨fun z => absurd z hg, fun _ => ⟨vi, ?_⟩⟩
        rw [nI_clamp (show i < 2 ^ 31 by omega), est, e1, e2, nI_clamp (show r.length < 2 ^ 31 by omega), nI_clamp (show r.length + 1 < 2 ^ 31 by omega), hx, hy, nI_1]
        have v1 : vp_in (nI r.length) 500 := vp_in_nI (by omega) (by decide)
        have v2 : vp_in (nI (r.length + 1)) 500 := vp_in_nI (by omega) (by decide)
        refine ⟨fun _ => ⟨v1, v2, vi, ?_⟩, fun z => absurd (nI_le (show 2 ≤ t.1 by omega) (by omega)) z⟩
        rcases o2 with o2 | o2 | o2
        · rw [o2] at nx ⊢
          exact ⟨fun _ => ⟨v1, nx⟩, fun z => absurd rfl z⟩
        · rw [o2] at nx ⊢
          exact ⟨fun z => absurd z (by decide), fun _ => ⟨vi, fun _ => ⟨v1, nx⟩, fun z => absurd rfl z⟩⟩
        · rw [o2] at nx ⊢
          exact ⟨fun z => absurd z (by decide), fun _ => ⟨vi, fun z => absurd z (by decide), fun _ => ⟨v1, nx⟩⟩⟩
theorem ct_value {L : List Itm} {f : Nat} (hA : At9 sh R m) (hvr : ∀ i, i < 5 → I (m + 23) i = vr i) (hw : wfE L) (hlen : f + L.length ≤ 1000) (hseg : SegM I m f L) :
    ∃ I', rMet γ l m_X9_value [.ref m, .int (nI f), .int (nI (f + L.length))] (sh, I, J, R) (sh, I', J, R) (some (.int (valJ vr L))) ∧ Sm (fun b _ => b = m + 24) I I' := by
  have lp := value_loop (γ := γ) (l := l) (J := J) hA hvr (valJ vr L) L f [] I hw.1 hlen hseg (fun _ _ _ => rfl) trivial (by simp) hw.2 (valJ_run hw.2 [])
  obtain ⟨I', h1, h2⟩ := rW_ex (w_X9_value_0 hA lp)
  exact ⟨I', e_X9_value h1, h2⟩
theorem hB_t {t : List Rl} : ∀ cu, hB vr true cu t = true := by
  induction t with
  | nil => intro cu; rfl
  | cons r t ih =>
    intro cu
    unfold hB
    by_cases q : r.1 = true
    · rw [if_pos q, Bool.true_or]; exact ih _
    · rw [if_neg q]; exact ih _
theorem e200 (s k : Nat) : ((200 : Int32) * nI s) + nI k = nI (200 * s + k) := by rw [show (200 : Int32) = nI 200 by decide, pk_mul, nI_add]
theorem e16 (s k : Nat) : ((16 : Int32) * nI s) + nI k = nI (16 * s + k) := by rw [show (16 : Int32) = nI 16 by decide, pk_mul, nI_add]
/-- one relation told -/
theorem relM_go {k : Nat} {r : Rl} {x1 x3 : Int32} {Q : rHeap → Option Value → Prop} (hA : At9 sh R m) (hs : s < 2) (hk : k < 200) (hr : V_rel r) (hM : RelM I m s k r) (hvr : ∀ i, i < 5 → I (m + 23) i = vr i) (K : ∀ I2, Sm (fun b _ => b = m + 24) I I2 → s_X9_holds_26 γ l m x1 (nz (relB vr r)) (x3 + 1) (sh, I2, J, R) Q) : s_X9_holds_76 γ l m x1 1 x3 (nI (200 * s + k)) (sh, I, J, R) Q := by
  obtain ⟨f, q1, q2, q3, q4, q5, q6, q7, q8⟩ := hM
  have hv : vp_in (nI (200 * s + k)) 400 := vp_in_nI (by omega) (by decide)
  have hcl : (nI (200 * s + k)).toNatClampNeg = 200 * s + k := nI_clamp (by omega)
  obtain ⟨I1, c1, c2⟩ := ct_value (γ := γ) (l := l) (J := J) (vr := vr) hA hvr hr.2.1 (by omega) q7
  obtain ⟨I2, d1, d2⟩ := ct_value (γ := γ) (l := l) (J := J) (vr := vr) (I := I1) (f := f + r.2.2.1.length) hA (fun i hi => (c2 _ _ (by simp)).trans (hvr i hi)) hr.2.2 (by omega) (q8.loc _ _ (fun b j h _ _ => c2 b j (by simp; omega)))
  have o1 : ∀ b j, b ≠ m + 24 → I1 b j = I b j := fun b j h => c2 b j h
  have o2 : ∀ b j, b ≠ m + 24 → I2 b j = I b j := fun b j h => (d2 b j h).trans (c2 b j h)
  have nx := K I2 (c2.tr d2)
  refine w_X9_holds_76 hA ⟨fun z => absurd z (by decide), fun _ => ⟨hv, hv, ?_⟩⟩
  rw [hcl, q3, q4]
  refine ⟨I1, _, c1, hv, hv, I2, valJ vr r.2.2.2, ?_, hv, ?_⟩
  · rw [o1 _ _ (by omega), o1 _ _ (by omega), q4, q5]; exact d1
  · rw [o2 _ _ (by omega), q2]
    have h4 := hr.1
    have hk4 : r.2.1 = 0 ∨ r.2.1 = 1 ∨ r.2.1 = 2 ∨ r.2.1 = 3 := by omega
    unfold relB at nx
    generalize valJ vr r.2.2.1 = x at nx ⊢
    generalize valJ vr r.2.2.2 = y at nx ⊢
    rcases hk4 with e | e | e | e <;> rw [e] at nx ⊢
    · refine ⟨fun _ => ⟨fun z => ?_, fun z => ?_⟩, fun z => absurd (by decide) z⟩
      · simpa [opJ, z, nz] using nx
      · simpa [opJ, z, nz] using nx
    · refine ⟨fun z => absurd z (by decide), fun _ => ⟨hv, fun _ => ⟨fun z => ?_, fun z => ?_⟩, fun z => absurd (by decide) z⟩⟩
      · simpa [opJ, z, nz] using nx
      · simpa [opJ, z, nz] using nx
    · refine ⟨fun z => absurd z (by decide), fun _ => ⟨hv, fun z => absurd z (by decide), fun _ => ⟨hv, fun _ => ⟨fun z => ?_, fun z => ?_⟩, fun z => absurd (by decide) z⟩⟩⟩
      · simpa [opJ, z, nz] using nx
      · simpa [opJ, z, nz] using nx
    · refine ⟨fun z => absurd z (by decide), fun _ => ⟨hv, fun z => absurd z (by decide), fun _ => ⟨hv, fun z => absurd z (by decide), fun _ => ⟨fun z => ?_, fun z => ?_⟩⟩⟩⟩
      · simpa [opJ, z, nz] using nx
      · simpa [opJ, z, nz] using nx
theorem holds_loop {r e : Nat} (hA : At9 sh R m) (hs : s < 2) (hr : r < 16) (h18 : I m 18 = nI s) (h13 : I (m + 13) (16 * s + r) = nI e) (he : e ≤ 200) (hvr : ∀ i, i < 5 → I (m + 23) i = vr i) : ∀ (t : List Rl) (k : Nat) (cu : Bool) (I1 : Nat → Nat → Int32), k + t.length = e → (∀ x ∈ t, V_rel x) → RelsM I m s k t → Sm (fun b _ => b = m + 24) I I1 →
    s_X9_holds_26 γ l m (nI (16 * s + r)) (nz cu) (nI k) (sh, I1, J, R) (fun hf v => ∃ I', hf = (sh, I', J, R) ∧ v = some (.int (nz (hB vr false cu t))) ∧ Sm (fun b _ => b = m + 24) I I') := by
  intro t
  induction t with
  | nil =>
    intro k cu I1 hk _ _ hS
    have hk : k = e := hk
    refine w_X9_holds_26 hA ⟨vp_in_nI (by omega) (by decide), ?_⟩
    rw [nI_clamp (by omega), hS _ _ (by simp), h13]
    refine ⟨fun _ => ⟨by cases cu; exact Or.inl rfl; exact Or.inr rfl, I1, rfl, rfl, hS⟩, fun z => absurd (nI_le (by omega) (by omega)) z⟩
  | cons x t ih =>
    intro k cu I1 hk hv hM hS
    have hk' : k + 1 + t.length = e := by simp at hk; omega
    have hM1 : RelM I1 m s k x := hM.1.loc (fun b j h1 h2 => hS b j (by simp; omega))
    have o19 : I1 (m + 19) (200 * s + k) = nz x.1 := by obtain ⟨f, q1, q2, q3, q4, q5, q6, q7, q8⟩ := hM1; exact q6
    have hv2 : vp_in (nI (200 * s + k)) 400 := vp_in_nI (by omega) (by decide)
    have hcl : (nI (200 * s + k)).toNatClampNeg = 200 * s + k := nI_clamp (by omega)
    have hvr1 : ∀ i, i < 5 → I1 (m + 23) i = vr i := fun i hi => (hS _ _ (by simp)).trans (hvr i hi)
    have go : ∀ (B : Bool), hB vr false cu (x :: t) = hB vr false (relB vr x) t → B = true → s_X9_holds_76 γ l m (nI (16 * s + r)) 1 (nI k) (nI (200 * s + k)) (sh, I1, J, R) (fun hf v => ∃ I', hf = (sh, I', J, R) ∧ v = some (.int (nz (hB vr false cu (x :: t)))) ∧ Sm (fun b _ => b = m + 24) I I') := by
      intro _ hh _
      refine relM_go hA hs (by omega) (hv x (by simp)) hM1 hvr1 (fun I2 h2 => ?_)
      rw [nI_1, hh]
      exact ih (k + 1) (relB vr x) I2 hk' (fun y hy => hv y (by simp [hy])) hM.2 (hS.tr h2)
    have stay : cu = false → x.1 = false → s_X9_holds_76 γ l m (nI (16 * s + r)) 0 (nI k) (nI (200 * s + k)) (sh, I1, J, R) (fun hf v => ∃ I', hf = (sh, I', J, R) ∧ v = some (.int (nz (hB vr false cu (x :: t)))) ∧ Sm (fun b _ => b = m + 24) I I') := by
      intro hc hx
      refine w_X9_holds_76 hA ⟨fun _ => ?_, fun z => absurd rfl z⟩
      have := ih (k + 1) false I1 hk' (fun y hy => hv y (by simp [hy])) hM.2 hS
      rw [nI_1]
      have hh : hB vr false cu (x :: t) = hB vr false false t := by rw [hc]; simp [hB, hx]
      rw [hh]
      exact this
    refine w_X9_holds_26 hA ⟨vp_in_nI (by omega) (by decide), ?_⟩
    rw [nI_clamp (show 16 * s + r < 2 ^ 31 by omega), hS _ _ (by simp), h13, hS _ _ (by simp), h18, e200, hcl, o19, nz_0, nz_0]
    refine ⟨fun z => absurd z (nI_ge (by simp at hk; omega) (by omega)), fun _ => ⟨hv2, fun z => ?_, fun z => ?_⟩⟩
    · refine w_X9_holds_64 hA ⟨hv2, ?_⟩
      rw [hcl, o19, nz_0]
      refine ⟨fun _ => ?_, fun y => absurd z y⟩
      cases hc : cu
      · have := stay hc z; rw [hc] at this; exact this
      · have := go true (by rw [hc]; simp [hB, z]) rfl; rw [hc] at this; exact this
    · have z' : x.1 = true := by simpa using z
      refine ⟨fun y => ?_, fun y => ?_⟩
      · refine w_X9_holds_64 hA ⟨hv2, ?_⟩
        rw [hcl, o19, nz_0]
        refine ⟨fun w => absurd w z, fun _ => go true ?_ rfl⟩
        rw [y]; simp [hB, z']
      · refine ⟨I1, rfl, ?_, hS⟩
        have y' : cu = true := by simpa using y
        rw [y']
        simp [hB, z', hB_t]
        rfl
theorem ct_holds {r : Nat} (hA : At9 sh R m) (hV : V_prc Rs) (hM : PrM I m s Rs) (h18 : I m 18 = nI s) (hvr : ∀ i, i < 5 → I (m + 23) i = vr i) (hr : r < Rs.length) :
    ∃ I', rMet γ l m_X9_holds [.ref m, .int (nI (16 * s + r))] (sh, I, J, R) (sh, I', J, R) (some (.int (nz (holdsJ vr (gR Rs r).2.2)))) ∧ Sm (fun b _ => b = m + 24) I I' := by
  have h16 := hV.1
  have hs := hM.1
  obtain ⟨v1, v2, v3, v4, v5⟩ := hV.2 r hr
  obtain ⟨f, k, q1, q2, q3, q4, q5, q6, q7, q8⟩ := hM.2.2 r hr
  have hv : vp_in (nI (16 * s + r)) 32 := vp_in_nI (by omega) (by decide)
  have key : s_X9_holds_0 γ l m (nI (16 * s + r)) (sh, I, J, R) (fun hf v => ∃ I', hf = (sh, I', J, R) ∧ v = some (.int (nz (holdsJ vr (gR Rs r).2.2))) ∧ Sm (fun b _ => b = m + 24) I I') := by
    refine w_X9_holds_0 hA ⟨hv, hv, ?_⟩
    rw [nI_clamp (by omega), q5, q6, nI_eq (by omega) (by omega)]
    refine ⟨fun z => ⟨I, rfl, ?_, Sm.rf⟩, fun z => ⟨hv, ?_⟩⟩
    · have : (gR Rs r).2.2 = [] := List.eq_nil_of_length_eq_zero (by omega)
      rw [this]; rfl
    · have lp := holds_loop (γ := γ) (l := l) (J := J) (vr := vr) hA hs (show r < 16 by omega) h18 q6 (by omega) hvr (gR Rs r).2.2 k false I rfl v3 q8 Sm.rf
      have hh : hB vr false false (gR Rs r).2.2 = holdsJ vr (gR Rs r).2.2 := by
        cases hL : (gR Rs r).2.2 with
        | nil => rw [hL] at z; simp at z
        | cons x t => simp [hB, holdsJ, v5 x t hL]
      rw [hh] at lp
      exact lp
  obtain ⟨I', h1, h2⟩ := rW_ex key
  exact ⟨I', e_X9_holds h1, h2⟩
theorem ruleOf_loop {srt : Nat} (hA : At9 sh R m) (hV : V_prc Rs) (hM : PrM I m s Rs) (h18 : I m 18 = nI s) (hs : srt < 2 ^ 31) (hvr : ∀ i, i < 5 → I (m + 23) i = vr i) : ∀ j k (I1 : Nat → Nat → Int32), k + j = Rs.length → Sm (fun b _ => b = m + 24) I I1 → s_X9_ruleOf_2 γ l m (nI srt) (nI k) (sh, I1, J, R) (fun hf v => ∃ I', hf = (sh, I', J, R) ∧ v = some (.int (frJ vr srt Rs j k)) ∧ Sm (fun b _ => b = m + 24) I I') := by
  have h16 := hV.1
  have hs2 := hM.1
  intro j
  induction j with
  | zero =>
    intro k I1 hk hS
    refine w_X9_ruleOf_2 hA ?_
    rw [hS m 18 (by simp), h18, nI_clamp (by omega), hS _ _ (by simp), hM.2.1]
    exact ⟨vp_in_nI hs2 (by decide), fun _ => ⟨I1, rfl, rfl, hS⟩, fun z => absurd (nI_le (by omega) (by omega)) z⟩
  | succ j ih =>
    intro k I1 hk hS
    have hr : k < Rs.length := by omega
    obtain ⟨v1, v2, v3, v4, v5⟩ := hV.2 k hr
    have hM1 : PrM I1 m s Rs := hM.loc (fun b j q1 q2 => hS b j (by simp; omega))
    obtain ⟨f, a, q1, q2, q3, q4, q5, q6, q7, q8⟩ := hM1.2.2 k hr
    have h18' : I1 m 18 = nI s := (hS m 18 (by simp)).trans h18
    have hvr1 : ∀ i, i < 5 → I1 (m + 23) i = vr i := fun i hi => (hS _ _ (by simp)).trans (hvr i hi)
    have nx : (¬ ((gR Rs k).1 = srt ∧ holdsJ vr (gR Rs k).2.2 = true)) → ∀ I2, Sm (fun b _ => b = m + 24) I I2 → s_X9_ruleOf_2 γ l m (nI srt) (nI k + 1) (sh, I2, J, R) (fun hf v => ∃ I', hf = (sh, I', J, R) ∧ v = some (.int (frJ vr srt Rs (j + 1) k)) ∧ Sm (fun b _ => b = m + 24) I I') := by
      intro hn I2 h2
      have := ih (k + 1) I2 (by omega) h2
      simp only [frJ, if_neg hn]
      rw [nI_1]
      exact this
    obtain ⟨I2, c1, c2⟩ := ct_holds (γ := γ) (l := l) (J := J) (vr := vr) hA hV hM1 h18' hvr1 hr
    refine w_X9_ruleOf_2 hA ?_
    rw [h18', nI_clamp (by omega), hM1.2.1, e16, nI_clamp (by omega), q2, nI_eq (by omega) hs]
    refine ⟨vp_in_nI hs2 (by decide), fun z => absurd z (nI_ge hr (by omega)), fun _ => ⟨vp_in_nI (by omega) (by decide), fun z => ⟨I2, _, c1, fun y => ?_, fun y => ⟨I2, rfl, ?_, hS.tr c2⟩⟩, fun z => nx (fun w => z w.1) I1 hS⟩⟩
    · exact nx (fun w => by rw [w.2] at y; exact absurd y (by decide)) I2 (hS.tr c2)
    · have hh : holdsJ vr (gR Rs k).2.2 = true := by cases q : holdsJ vr (gR Rs k).2.2; rw [q] at y; exact absurd rfl y; rfl
      simp only [frJ, if_pos (And.intro z hh)]
theorem ct_ruleOf {srt : Nat} (hA : At9 sh R m) (hV : V_prc Rs) (hM : PrM I m s Rs) (h18 : I m 18 = nI s) (hs : srt < 2 ^ 31) (hvr : ∀ i, i < 5 → I (m + 23) i = vr i) :
    ∃ I', rMet γ l m_X9_ruleOf [.ref m, .int (nI srt)] (sh, I, J, R) (sh, I', J, R) (some (.int (firJ vr srt Rs))) ∧ Sm (fun b _ => b = m + 24) I I' := by
  obtain ⟨I', h1, h2⟩ := rW_ex (w_X9_ruleOf_0 hA (ruleOf_loop (γ := γ) (l := l) (J := J) hA hV hM h18 hs hvr Rs.length 0 I (by omega) Sm.rf))
  exact ⟨I', e_X9_ruleOf h1, h2⟩
theorem hldJ_eq (v : Int32) : hldJ v = if 0 ≤ v then (if v ≤ 1000 then v else 1000) else 0 := by
  unfold hldJ
  have e0 : (0 : Int32).toInt = 0 := by decide
  have e1 : (1000 : Int32).toInt = 1000 := by decide
  by_cases h1 : v < 1000
  · rw [if_pos h1]
    have h3 : v ≤ 1000 := Int32.le_of_lt h1
    by_cases h2 : 0 < v
    · rw [if_pos h2, if_pos (Int32.le_of_lt h2), if_pos h3]
    · rw [if_neg h2]
      by_cases h4 : 0 ≤ v
      · rw [if_pos h4, if_pos h3]
        rw [Int32.lt_iff_toInt_lt] at h2
        rw [Int32.le_iff_toInt_le] at h4
        apply Int32.toInt_inj.mp
        omega
      · rw [if_neg h4]
  · rw [if_neg h1, if_pos (by decide)]
    rw [Int32.lt_iff_toInt_lt] at h1
    have h2 : 0 ≤ v := by rw [Int32.le_iff_toInt_le]; omega
    rw [if_pos h2]
    by_cases h3 : v ≤ 1000
    · rw [if_pos h3]
      rw [Int32.le_iff_toInt_le] at h3
      apply Int32.toInt_inj.mp
      omega
    · rw [if_neg h3]
theorem ct_says {r : Nat} (hA : At9 sh R m) (hV : V_prc Rs) (hM : PrM I m s Rs) (h18 : I m 18 = nI s) (hvr : ∀ i, i < 5 → I (m + 23) i = vr i) (hr : r < Rs.length) :
    ∃ I', rMet γ l m_X9_says [.ref m, .int (nI r)] (sh, I, J, R) (sh, I', J, R) (some (.int (wthJ vr Rs r))) ∧ Sm (fun b _ => b = m + 24) I I' := by
  have h16 := hV.1
  have hs2 := hM.1
  obtain ⟨v1, v2, v3, v4, v5⟩ := hV.2 r hr
  obtain ⟨f, k, q1, q2, q3, q4, q5, q6, q7, q8⟩ := hM.2.2 r hr
  obtain ⟨I1, c1, c2⟩ := ct_value (γ := γ) (l := l) (J := J) (vr := vr) hA hvr v2 (by omega) q7
  have key : s_X9_says_0 γ l m (nI r) (sh, I, J, R) (fun hf v => ∃ I', hf = (sh, I', J, R) ∧ v = some (.int (wthJ vr Rs r)) ∧ Sm (fun b _ => b = m + 24) I I') := by
    have hv : vp_in (nI (16 * s + r)) 32 := vp_in_nI (by omega) (by decide)
    refine w_X9_says_0 hA ?_
    rw [h18, e16, nI_clamp (by omega), q3, q4]
    unfold wthJ
    rw [hldJ_eq]
    refine ⟨hv, hv, I1, _, c1, fun z => ⟨fun y => ⟨I1, rfl, ?_, c2⟩, fun y => ⟨I1, rfl, ?_, c2⟩⟩, fun z => ⟨I1, rfl, ?_, c2⟩⟩
    · rw [if_pos z, if_pos y]
    · rw [if_pos z, if_neg y]
    · rw [if_neg z]
  obtain ⟨I', h1, h2⟩ := rW_ex key
  exact ⟨I', e_X9_says h1, h2⟩
theorem ct_priceOf {srt : Nat} (hA : At9 sh R m) (hV : V_prc Rs) (hM : PrM I m s Rs) (h18 : I m 18 = nI s) (hs : srt < 2 ^ 31) (hvr : ∀ i, i < 5 → I (m + 23) i = vr i) :
    ∃ I', rMet γ l m_X9_priceOf [.ref m, .int (nI srt)] (sh, I, J, R) (sh, I', J, R) (some (.int (fwJ vr srt 10 Rs))) ∧ Sm (fun b _ => b = m + 24) I I' := by
  have h16 := hV.1
  obtain ⟨I1, c1, c2⟩ := ct_ruleOf (γ := γ) (l := l) (J := J) (vr := vr) hA hV hM h18 hs hvr
  have hM1 : PrM I1 m s Rs := hM.loc (fun b j q1 q2 => c2 b j (by simp; omega))
  have hvr1 : ∀ i, i < 5 → I1 (m + 23) i = vr i := fun i hi => (c2 _ _ (by simp)).trans (hvr i hi)
  have key : s_X9_priceOf_0 γ l m (nI srt) (sh, I, J, R) (fun hf v => ∃ I', hf = (sh, I', J, R) ∧ v = some (.int (fwJ vr srt 10 Rs)) ∧ Sm (fun b _ => b = m + 24) I I') := by
    refine w_X9_priceOf_0 hA ⟨I1, _, c1, fun z => ⟨I1, rfl, ?_, c2⟩, fun z => ?_⟩
    · unfold fwJ; rw [if_pos z]
    · rcases frJ_or (vr := vr) (srt := srt) (Rs := Rs) Rs.length 0 with q | ⟨r, _, q2, q3⟩
      · exact absurd q z
      · have e : firJ vr srt Rs = nI r := q3
        obtain ⟨I2, d1, d2⟩ := ct_says (γ := γ) (l := l) (J := J) (vr := vr) (r := r) hA hV hM1 ((c2 m 18 (by simp)).trans h18) hvr1 (by omega)
        rw [e]
        refine ⟨I2, _, d1, I2, rfl, ?_, c2.tr d2⟩
        unfold fwJ
        rw [if_neg z, e, nI_clamp (by omega)]
  obtain ⟨I', h1, h2⟩ := rW_ex key
  exact ⟨I', e_X9_priceOf h1, h2⟩
theorem ct_asks {x1 x2 x3 x4 x5 : Int32} (hA : At9 sh R m) : rMet γ l m_X9_asks [.ref m, .int x1, .int x2, .int x3, .int x4, .int x5] (sh, I, J, R) (sh, vsI I (m + 23) x1 x2 x3 x4 x5, J, R) none :=
  e_X9_asks (rW_pure (w_X9_asks_0 hA ⟨pk_in 0 5 (by decide), pk_in 1 5 (by decide), pk_in 2 5 (by decide), pk_in 3 5 (by decide), pk_in 4 5 (by decide), rfl, rfl⟩))
end PRM
