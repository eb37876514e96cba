/-! ===== the model's reader: small methods ===== -/
def MxS (I : Nat → Nat → Int32) (m base : Nat) (W : List Nat) (S : List Itm) : Prop := I m 36 = nI W.length ∧ StkJ I (m + 22) (W.map (fun s => nI (kOf s 0))) ∧ I m 32 = nI (base + S.length) ∧ SegM I m base S
def Fmx (m : Nat) : Nat → Nat → Prop := fun b j => (b = m ∧ (j = 36 ∨ j = 32)) ∨ b = m + 20 ∨ b = m + 21
theorem SegM_snoc {I : Nat → Nat → Int32} {m : Nat} {t : Itm} : ∀ (L : List Itm) (f : Nat), SegM I m f L → I (m + 20) (f + L.length) = nI t.1 → I (m + 21) (f + L.length) = nI t.2 → SegM I m f (L ++ [t]) := by
  intro L
  induction L with
  | nil => intro f _ h1 h2; exact ⟨⟨h1, h2⟩, trivial⟩
  | cons x L ih =>
    intro f h0 h1 h2
    have e : f + (x :: L).length = f + 1 + L.length := by simp only [List.length_cons]; omega
    rw [e] at h1 h2
    exact ⟨h0.1, ih (f + 1) h0.2 h1 h2⟩
section MREAD
variable {γ : rG} {l : Launch} {sh : Nat × (Nat → Nat) × (Nat → Nat)} {I : Nat → Nat → Int32} {J : Nat → Nat → Int64} {R : Nat → Nat → Option Nat} {m k kd c base lim : Nat}
theorem ct_is0 (hA : At9 sh R m) (h13 : I m 13 = 0) (h11 : I m 11 = nI k) (hk : k < 403) (h3 : I (m + 3) k = nI kd) (hkd : kd < 100) (hc : c < 100) : rMet γ l m_X9_is [.ref m, .int (nI c)] (sh, I, J, R) (sh, I, J, R) (some (.int (nz (decide (kd = c))))) := by
  refine e_X9_is (rW_pure (w_X9_is_0 hA ⟨fun _ => ?_, fun z => absurd h13 z⟩))
  rw [h11, nI_clamp (by omega), h3]
  refine ⟨vp_in_nI hk (by decide), fun z => ⟨rfl, ?_⟩, fun z => ⟨rfl, ?_⟩⟩
  · rw [decide_eq_true ((nI_eq (by omega) (by omega)).mp z)]; rfl
  · rw [decide_eq_false (fun y => z (by rw [y]))]; rfl
theorem ct_isF (hA : At9 sh R m) (h13 : I m 13 ≠ 0) (x : Int32) : rMet γ l m_X9_is [.ref m, .int x] (sh, I, J, R) (sh, I, J, R) (some (.int 0)) :=
  e_X9_is (rW_pure (w_X9_is_0 hA ⟨fun z => absurd z h13, fun _ => ⟨rfl, rfl⟩⟩))
theorem ct_fail0 (hA : At9 sh R m) (h13 : I m 13 = 0) (h11 : I m 11 = nI k) (hk : k < 403) (x : Int32) : rMet γ l m_X9_fail [.ref m, .int x] (sh, I, J, R) (sh, up (up I m 13 x) m 14 (I (m + 4) k), J, R) none := by
  refine e_X9_fail (rW_pure (w_X9_fail_0 hA ⟨fun _ => ?_, fun z => absurd (by rw [h13]; decide) z⟩))
  have e : up I m 13 x m 11 = nI k := by rw [up_at, if_neg (by omega)]; exact h11
  have e2 : up I m 13 x (m + 4) k = I (m + 4) k := by rw [up_at, if_neg (by omega)]
  rw [e, nI_clamp (by omega), e2]
  exact ⟨vp_in_nI hk (by decide), rfl, rfl⟩
theorem ct_failF (hA : At9 sh R m) (h13 : ¬ I m 13 ≤ 0) (x : Int32) : rMet γ l m_X9_fail [.ref m, .int x] (sh, I, J, R) (sh, I, J, R) none :=
  e_X9_fail (rW_pure (w_X9_fail_0 hA ⟨fun z => absurd z h13, fun _ => ⟨rfl, rfl⟩⟩))
theorem ct_next1 (hA : At9 sh R m) (h11 : I m 11 = nI k) (hk : k < 400) : rMet γ l m_X9_next [.ref m] (sh, I, J, R) (sh, up I m 11 (nI (k + 1)), J, R) none := by
  refine e_X9_next (rW_pure (w_X9_next_0 hA ⟨fun z => ?_, fun _ => ⟨?_, rfl⟩⟩))
  · rw [h11] at z
    have := (nI_eq (b := 400) (by omega) (by decide)).mp z
    omega
  · rw [h11, nI_1]
theorem ct_next4 (hA : At9 sh R m) (h11 : I m 11 = nI 400) (h13 : I m 13 = 0) : rMet γ l m_X9_next [.ref m] (sh, I, J, R) (sh, up (up I m 13 2) m 14 (I (m + 4) 400), J, R) none :=
  e_X9_next (rW_pure (w_X9_next_0 hA ⟨fun _ => ⟨_, ct_fail0 hA h13 h11 (by decide) 2, rfl, rfl⟩, fun z => absurd (by rw [h11]; rfl) z⟩))
/-- with a fault on record, next changes at most the place of the token -/
theorem ct_nextF (hA : At9 sh R m) (h13 : ¬ I m 13 ≤ 0) : ∃ I', rMet γ l m_X9_next [.ref m] (sh, I, J, R) (sh, I', J, R) none ∧ Sm (fun b j => b = m ∧ j = 11) I I' := by
  obtain ⟨I', q1, q2⟩ := rW_ex (γ := γ) (l := l) (sh := sh) (J := J) (R := R) (r := none) (F := fun I' => Sm (fun b j => b = m ∧ j = 11) I I') (w_X9_next_0 (I := I) (J := J) hA ⟨fun _ => ⟨I, ct_failF hA h13 2, I, rfl, rfl, Sm.rf⟩, fun _ => ⟨_, rfl, rfl, Sm.rf.up ⟨rfl, rfl⟩⟩⟩)
  exact ⟨I', e_X9_next q1, q2⟩
theorem ct_emitM {W : List Nat} {S : List Itm} {t : Itm} (hA : At9 sh R m) (hS : MxS I m base W S) (hl : base + S.length < 1000) : ∃ I', rMet γ l m_X9_emit [.ref m, .int (nI t.1), .int (nI t.2)] (sh, I, J, R) (sh, I', J, R) none ∧ (MxS I' m base W (S ++ [t]) ∧ Sm (fun b j => (b = m ∧ j = 32) ∨ ((b = m + 20 ∨ b = m + 21) ∧ j = base + S.length)) I I') := by
  obtain ⟨h1, h2, h3, h4⟩ := hS
  have e1 : up I (m + 20) (base + S.length) (nI t.1) m 32 = nI (base + S.length) := by rw [up_at, if_neg (by omega)]; exact h3
  have e2 : up (up I (m + 20) (base + S.length) (nI t.1)) (m + 21) (base + S.length) (nI t.2) m 32 = nI (base + S.length) := by rw [up_at, if_neg (by omega)]; exact e1
  obtain ⟨I', q1, q2⟩ := rW_ex (γ := γ) (l := l) (sh := sh) (J := J) (R := R) (r := none) (F := fun I' => MxS I' m base W (S ++ [t]) ∧ Sm (fun b j => (b = m ∧ j = 32) ∨ ((b = m + 20 ∨ b = m + 21) ∧ j = base + S.length)) I I') (w_X9_emit_0 (I := I) (J := J) (x1 := nI t.1) (x2 := nI t.2) hA (by
    rw [h3, nI_clamp (by omega), e1, nI_clamp (by omega), e2, nI_1]
    refine ⟨vp_in_nI hl (by decide), vp_in_nI hl (by decide), _, rfl, rfl, ⟨?_, h2.loc _ (fun j _ => ?_), ?_, SegM_snoc S base (h4.loc S base (fun b j hb z1 z2 => ?_)) ?_ ?_⟩, ((Sm.rf.up (by omega)).up (by omega)).up (by omega)⟩
    · rw [up_at, if_neg (by omega), up_at, if_neg (by omega), up_at, if_neg (by omega)]; exact h1
    · rw [up_at, if_neg (by omega), up_at, if_neg (by omega), up_at, if_neg (by omega)]
    · rw [up_at, if_pos ⟨rfl, rfl⟩]; simp only [List.length_append, List.length_singleton]; rfl
    · rw [up_at, if_neg (by omega), up_at, if_neg (by omega), up_at, if_neg (by omega)]
    · rw [up_at, if_neg (by omega), up_at, if_neg (by omega), up_at, if_pos ⟨rfl, rfl⟩]
    · rw [up_at, if_neg (by omega), up_at, if_pos ⟨rfl, rfl⟩]))
  exact ⟨I', e_X9_emit q1, q2⟩
def Fcm (m base lim : Nat) : Nat → Nat → Prop := fun b j => (b = m ∧ (j = 36 ∨ j = 32)) ∨ ((b = m + 20 ∨ b = m + 21) ∧ base ≤ j ∧ j < lim)
theorem kO : ∀ s : Fin 18, (s.val = 8 ∨ 15 ≤ s.val) → (nI (kOf s.val 0) = 6 ↔ s.val = 8) ∧ (nI (kOf s.val 0) = 10 ↔ s.val = 17) ∧ (nI (kOf s.val 0) = 8 ↔ s.val = 15) ∧ (nI (kOf s.val 0) = 9 ↔ s.val = 16) := by decide +kernel
/-- what binds comes out; 'times' alone, if so asked -/
theorem ct_comesOut (tm : Bool) (hA : At9 sh R m) (W : List Nat) (S : List Itm) (hW : ∀ x ∈ W, x = 8 ∨ x = 15 ∨ x = 16 ∨ x = 17) (hS : MxS I m base W S) (hl : W.length ≤ 48) (hb : base + S.length + W.length ≤ lim ∧ lim ≤ 1000) : ∃ I', rMet γ l m_X9_comesOut [.ref m, .int (nz tm)] (sh, I, J, R) (sh, I', J, R) none ∧ (MxS I' m base (W.dropWhile (fun x => if tm then isT x else isB x)) (S ++ (W.takeWhile (fun x => if tm then isT x else isB x)).map itm) ∧ Sm (Fcm m base lim) I I') := by
  obtain ⟨hb, hlm⟩ := hb
  have key : ∀ (W : List Nat) (S : List Itm) (I1 : Nat → Nat → Int32), (∀ x ∈ W, x = 8 ∨ x = 15 ∨ x = 16 ∨ x = 17) → MxS I1 m base W S → W.length ≤ 48 → base + S.length + W.length ≤ lim → Sm (Fcm m base lim) I I1 → s_X9_comesOut_0 γ l m (nz tm) (sh, I1, J, R) (fun hf v => ∃ I', hf = (sh, I', J, R) ∧ v = none ∧ (MxS I' m base (W.dropWhile (fun x => if tm then isT x else isB x)) (S ++ (W.takeWhile (fun x => if tm then isT x else isB x)).map itm) ∧ Sm (Fcm m base lim) I I')) := by
    intro W
    induction W with
    | nil =>
      intro S I1 hW h1 hl hb hF
      refine w_X9_comesOut_0 hA ⟨fun _ => ⟨I1, rfl, rfl, by simpa using h1, hF⟩, fun z => absurd (by rw [h1.1]; exact nI_le (by simp) (by decide)) z⟩
    | cons s W ih =>
      intro S I1 hW h1 hl hb hF
      have hs := hW s (by simp)
      have hk := kO ⟨s, by omega⟩ (by show s = 8 ∨ 15 ≤ s; omega)
      simp only at hk
      obtain ⟨k6, k10, k8, k9⟩ := hk
      have e1 : I1 m 36 = nI (W.length + 1) := h1.1
      have hlt : W.length + 1 ≤ 48 := hl
      have hbt : base + S.length + (W.length + 1) ≤ lim := hb
      have et : I1 (m + 22) W.length = nI (kOf s 0) := by
        have := h1.2.1.1
        simpa using this
      have stop : (if tm then isT s else isB s) = false → ∃ I', ((sh, I1, J, R) : rHeap) = (sh, I', J, R) ∧ (none : Option Value) = none ∧ (MxS I' m base ((s :: W).dropWhile (fun x => if tm then isT x else isB x)) (S ++ ((s :: W).takeWhile (fun x => if tm then isT x else isB x)).map itm) ∧ Sm (Fcm m base lim) I I') := by
        intro hp
        refine ⟨I1, rfl, rfl, ?_, hF⟩
        have d1 : (s :: W).dropWhile (fun x => if tm then isT x else isB x) = s :: W := by simp only [List.dropWhile, hp]
        have d2 : (s :: W).takeWhile (fun x => if tm then isT x else isB x) = [] := by simp only [List.takeWhile, hp]
        rw [d1, d2]
        simpa using h1
      have pop : (if tm then isT s else isB s) = true → s_X9_comesOut_43 γ l m (nz tm) (sh, I1, J, R) (fun hf v => ∃ I', hf = (sh, I', J, R) ∧ v = none ∧ (MxS I' m base ((s :: W).dropWhile (fun x => if tm then isT x else isB x)) (S ++ ((s :: W).takeWhile (fun x => if tm then isT x else isB x)).map itm) ∧ Sm (Fcm m base lim) I I')) := by
        intro hp
        have d1 : (s :: W).dropWhile (fun x => if tm then isT x else isB x) = W.dropWhile (fun x => if tm then isT x else isB x) := by simp only [List.dropWhile, hp]
        have d2 : (s :: W).takeWhile (fun x => if tm then isT x else isB x) = s :: W.takeWhile (fun x => if tm then isT x else isB x) := by simp only [List.takeWhile, hp]
        rw [d1, d2]
        have hB : isB s = true := by
          cases tm
          · exact hp
          · exact isT_B hp
        have h15 : 15 ≤ s := of_decide_eq_true hB
        have ew : up I1 m 36 (nI W.length) m 36 = nI W.length := by rw [up_at, if_pos ⟨rfl, rfl⟩]
        have ew2 : up I1 m 36 (nI W.length) (m + 22) W.length = nI (kOf s 0) := by rw [up_at, if_neg (by omega)]; exact et
        have hS2 : MxS (up I1 m 36 (nI W.length)) m base W S := ⟨ew, (show StkJ I1 (m + 22) (W.map (fun s => nI (kOf s 0))) from h1.2.1.2).loc _ (fun j _ => by rw [up_at, if_neg (by omega)]), by rw [up_at, if_neg (by omega)]; exact h1.2.2.1, h1.2.2.2.loc S base (fun b j z _ _ => by rw [up_at, if_neg (by omega)])⟩
        have go : ∀ x : Nat, itm s = (x, 0) → ∃ I4, rMet γ l m_X9_emit [.ref m, .int (nI x), .int 0] (sh, up I1 m 36 (nI W.length), J, R) (sh, I4, J, R) none ∧ s_X9_comesOut_0 γ l m (nz tm) (sh, I4, J, R) (fun hf v => ∃ I', hf = (sh, I', J, R) ∧ v = none ∧ (MxS I' m base (W.dropWhile (fun x => if tm then isT x else isB x)) (S ++ (s :: W.takeWhile (fun x => if tm then isT x else isB x)).map itm) ∧ Sm (Fcm m base lim) I I')) := by
          intro x hx
          obtain ⟨I4, g1, g2, g3⟩ := ct_emitM (γ := γ) (l := l) (J := J) (t := (x, 0)) hA hS2 (by simp only [List.length_cons] at hb; omega)
          refine ⟨I4, g1, ?_⟩
          have := ih (S ++ [(x, 0)]) I4 (fun y hy => hW y (by simp [hy])) g2 (by omega) (by simp only [List.length_append, List.length_cons, List.length_nil] at hb ⊢; omega) ((hF.up (Or.inl ⟨rfl, Or.inl rfl⟩)).tr (g3.mono (fun b j z => by unfold Fcm; omega)))
          rw [List.map_cons, hx, show S ++ ((x, 0) :: (W.takeWhile (fun x => if tm then isT x else isB x)).map itm) = S ++ [(x, 0)] ++ (W.takeWhile (fun x => if tm then isT x else isB x)).map itm by simp]
          exact this
        refine w_X9_comesOut_43 hA ?_
        rw [e1, nI_pred, ew, nI_clamp (by omega), ew2, k8, k9]
        refine ⟨vp_in_nI (by omega) (by decide), fun z => go 2 (by rw [z]; rfl), fun z1 => ⟨fun z => go 3 (by rw [z]; rfl), fun z2 => go 4 ?_⟩⟩
        have : s = 17 := by omega
        rw [this]; rfl
      refine w_X9_comesOut_0 hA ⟨fun z => absurd z (by rw [e1]; exact nI_nle (by omega) (by omega)), fun _ => ?_⟩
      rw [e1, nI_pred, nI_clamp (by omega), et, k6, k10]
      refine ⟨vp_in_nI (by omega) (by decide), fun z => stop ?_, fun z => ⟨fun y => pop ?_, fun y => ⟨vp_in_nI (by omega) (by decide), fun x => pop ?_, fun x => stop ?_⟩⟩⟩
      · subst z; cases tm <;> rfl
      · have ht : tm = false := by revert y; cases tm <;> simp [nz]
        subst ht
        show isB s = true
        exact decide_eq_true (by omega)
      · subst x; cases tm <;> rfl
      · have ht : tm = true := by revert y; cases tm <;> simp [nz]
        subst ht
        show isT s = false
        exact decide_eq_false x
  obtain ⟨I', q1, q2⟩ := rW_ex (key W S I hW hS hl hb Sm.rf)
  exact ⟨I', e_X9_comesOut q1, q2⟩
end MREAD
