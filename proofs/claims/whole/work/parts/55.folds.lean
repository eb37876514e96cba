/-! ===== the model's folds ===== -/
theorem rW_pure {γ : rG} {l : Launch} {M : rM} {k n pc : Nat} {L : List (Option Value)} {st : List Value} {h h' : rHeap} {v : Option Value} (t : rW γ l M k n pc L st h (fun hf r => hf = h' ∧ r = v)) : rV γ l M k n pc L st h h' v := by
  obtain ⟨hf, r, t, rfl, rfl⟩ := t
  exact t
def Ft (a t b j : Nat) : Prop := (b = a + 25 ∧ j = t) ∨ ((b = a + 26 ∨ b = a + 27 ∨ b = a + 28) ∧ 8 * t ≤ j ∧ j < 8 * t + 8)
theorem PkM.sm {I I' : Nat → Nat → Int32} {a q t : Nat} {P : Pk} (h : PkM I a q P) (h8 : pN P ≤ 8) (hqt : q ≠ t) (hs : Sm (Ft a t) I I') : PkM I' a q P :=
  h.loc h8 (hs _ _ (by unfold Ft; omega)) (hs _ _ (by unfold Ft; omega)) (fun b j hb h1 h2 => hs _ _ (by unfold Ft; omega))
def rawC (P : Pk) (x : Nat) (left : Bool) (p : Nat) : Int := if tMv x left (pC P p) then 2 * (x : Int) - 1 - pC P p else pC P p
def tU (P : Pk) (x : Nat) (left : Bool) (p : Nat) : Bool := if tMv x left (pC P p) then !pU P p else pU P p
theorem rawC_eq {P : Pk} {x p : Nat} {left : Bool} (hP : PkV P) (hx1 : 1 ≤ x) (hx : x < pW P) (hp : p < pN P) : rawC P x left p = tLz (pW P) x left + tCol (pW P) x left (pC P p) := by
  have hc := (hP.2.2.2.2.1 p hp).1
  unfold rawC
  split
  · rename_i h; have := tCol_mv hx1 hx hc h; omega
  · rename_i h; have := tCol_un hx1 hx hc (by simpa using h); omega
theorem rawC_b {P : Pk} {x p : Nat} {left : Bool} (hP : PkV P) (hx : x < pW P) (hp : p < pN P) : -20 ≤ rawC P x left p ∧ rawC P x left p ≤ 20 := by
  have hc := (hP.2.2.2.2.1 p hp).1
  have := hP.2.2.2.1
  unfold rawC
  split <;> omega
/-- the marks that a turn leaves, of the first k pairs -/
def crM (P : Pk) (x : Nat) (left over : Bool) : Nat → Int32
  | 0 => 0
  | k + 1 => if pC P k = pC P (k + 1) ∨ tMv x left (pC P k) = tMv x left (pC P (k + 1)) then crM P x left over k else crM P x left over k ||| ((if pU P k = over then (1 : Int32) else 2) <<< (((2 : Int32) * nI k) &&& 31))
section FLD
variable {γ : rG} {l : Launch} {Q : rHeap → Option Value → Prop} {sh : Nat × (Nat → Nat) × (Nat → Nat)} {I0 : Nat → Nat → Int32} {J : Nat → Nat → Int64} {R : Nat → Nat → Option Nat} {a q t x lev : Nat} {left : Bool} {P : Pk} {how : Int32}
def F1 (I0 I : Nat → Nat → Int32) (a t : Nat) (P : Pk) (x : Nat) (left : Bool) (k : Nat) (m : Int) : Prop := Sm (Ft a t) I0 I ∧ (∀ p, p < k → I (a + 26) (8 * t + p) = zI (rawC P x left p) ∧ I (a + 28) (8 * t + p) = nz (tU P x left p)) ∧ (∀ p, p < k → m ≤ rawC P x left p) ∧ (m = 1000 ∨ ∃ p, p < k ∧ m = rawC P x left p)
theorem folds1 (hA : At9 sh R a) (hq : q < 22) (ht : t < 22) (hqt : q ≠ t) (hP : PkV P) (hx1 : 1 ≤ x) (hx : x < pW P) (hM : PkM I0 a q P)
    (K : ∀ I m, F1 I0 I a t P x left (pN P) m → s_X9_folds_150 γ l a (nI q) (nI t) (nI x) (nz left) how (zI m) 0 0 (sh, I, J, R) Q) :
    ∀ j k I m, k + j = pN P → F1 I0 I a t P x left k m → s_X9_folds_8 γ l a (nI q) (nI t) (nI x) (nz left) how (zI m) (nI k) (sh, I, J, R) Q := by
  obtain ⟨v1, v2, v3, v4, v5, v6, v7, v8⟩ := id hP
  intro j
  induction j with
  | zero =>
    intro k I m hk hF
    have e : k = pN P := by omega
    subst e
    have hMI := hM.sm v2 hqt hF.1
    have hg : I a 39 ≤ nI (pN P) := by rw [hMI.1]; exact nI_le (Nat.le_refl _) (by omega)
    exact w_X9_folds_8 hA ⟨fun _ => K I m hF, fun z => absurd hg z⟩
  | succ j ih =>
    intro k I m hk hF
    have hMI := hM.sm v2 hqt hF.1
    have hg : ¬ I a 39 ≤ nI k := by rw [hMI.1]; exact nI_ge (by omega) (by omega)
    have c1 : (((8 : Int32) * nI q) + nI k).toNatClampNeg = 8 * q + k := by rw [e8]; exact nI_clamp (by omega)
    have c2 : (((8 : Int32) * nI t) + nI k).toNatClampNeg = 8 * t + k := by rw [e8]; exact nI_clamp (by omega)
    have i1 : vp_in (((8 : Int32) * nI q) + nI k) 176 := by rw [e8]; exact vp_in_nI (by omega) (by decide)
    have i2 : vp_in (((8 : Int32) * nI t) + nI k) 176 := by rw [e8]; exact vp_in_nI (by omega) (by decide)
    have hkN : k < pN P := by omega
    have hc := (v5 k hkN).1
    obtain ⟨q1, q2, q3⟩ := hMI.2.2 k hkN
    have rb := rawC_b (left := left) hP hx hkN
    have body2 : ∀ (I1 : Nat → Nat → Int32) (s0 : Int32), I1 = up I (a + 26) (8 * t + k) (zI (rawC P x left k)) → s0 = nz (tU P x left k) → s_X9_folds_106 γ l a (nI q) (nI t) (nI x) (nz left) how (zI m) (nI k) s0 (((8 : Int32) * nI t) + nI k) (a + 28) (sh, I1, J, R) Q := by
      intro I1 s0 hI1 hs0
      subst hs0
      have e1 : up I1 (a + 28) (8 * t + k) (nz (tU P x left k)) (a + 26) (8 * t + k) = zI (rawC P x left k) := by rw [up_at, if_neg (by omega), hI1, up_at, if_pos ⟨rfl, rfl⟩]
      have hF2 : ∀ m', m' = (if m ≤ rawC P x left k then m else rawC P x left k) → F1 I0 (up I1 (a + 28) (8 * t + k) (nz (tU P x left k))) a t P x left (k + 1) m' := by
        intro m' hm'
        obtain ⟨f1, f2, f3, f4⟩ := hF
        refine ⟨?_, fun p hp => ?_, fun p hp => ?_, ?_⟩
        · rw [hI1]; exact (f1.up (by unfold Ft; omega)).up (by unfold Ft; omega)
        · rw [hI1]
          by_cases hpk : p = k
          · subst hpk; simp [up_at]
          · have := f2 p (by omega)
            simp [up_at, hpk, this]
        · by_cases hpk : p = k
          · subst hpk; rw [hm']; split <;> omega
          · have := f3 p (by omega); rw [hm']; split <;> omega
        · rw [hm']
          split
          · rcases f4 with f4 | ⟨p, hp, f4⟩
            · exact Or.inl f4
            · exact Or.inr ⟨p, by omega, f4⟩
          · exact Or.inr ⟨k, by omega, rfl⟩
      have zm : zOk m := by
        rcases hF.2.2.2 with f | ⟨p, hp, f⟩
        · unfold zOk; omega
        · have := rawC_b (left := left) hP hx (show p < pN P by omega); unfold zOk; omega
      refine w_X9_folds_106 hA (At9_43 hA).2.1 (At9_43 hA).2.2 ⟨i2, i2, ?_⟩
      rw [c2, nar_nz, e1, nI_1, zI_le zm (by unfold zOk; omega)]
      exact ⟨fun z => ih (k + 1) _ _ (by omega) (hF2 m (by rw [if_pos z])), fun z => ⟨i2, ih (k + 1) _ _ (by omega) (hF2 _ (by rw [if_neg z]))⟩⟩
    have body : ∀ s0 : Int32, s0 = zI (rawC P x left k) → s_X9_folds_72 γ l a (nI q) (nI t) (nI x) (nz left) how (zI m) (nI k) (nz (tMv x left (pC P k))) s0 (((8 : Int32) * nI t) + nI k) (a + 26) (sh, I, J, R) Q := by
      intro s0 hs0
      subst hs0
      refine w_X9_folds_72 hA (At9_41 hA).2.1 (At9_41 hA).2.2 ⟨i2, i1, ?_⟩
      rw [c1, c2]
      have e3 : up I (a + 26) (8 * t + k) (zI (rawC P x left k)) (a + 28) (8 * q + k) = nz (pU P k) := by rw [up_at, if_neg (by omega)]; exact q3
      rw [e3, nz_eq]
      refine ⟨fun z => body2 _ _ rfl ?_, fun z => body2 _ _ rfl ?_⟩
      · unfold tU; rw [z]; cases tMv x left (pC P k) <;> rfl
      · unfold tU; revert z; cases tMv x left (pC P k) <;> cases pU P k <;> simp [nz]
    refine w_X9_folds_8 hA ⟨fun z => absurd z hg, fun _ => ⟨i1, _, ct_turns hA hq v2 hMI hkN (by omega) (by omega), ?_⟩⟩
    rw [c1, q1, nz_0]
    refine ⟨fun z => body _ ?_, fun z => body _ ?_⟩
    · unfold rawC; rw [z, zI_nat]; rfl
    · have z' : tMv x left (pC P k) = true := by simpa using z
      unfold rawC
      rw [if_pos z', zI_2, zI_1, zI_nat, zI_nat, zI_mul, zI_sub, zI_sub]
/-- behind the first loop the least new column is known -/
theorem F1_least {I : Nat → Nat → Int32} {m : Int} (hP : PkV P) (hx1 : 1 ≤ x) (hx : x < pW P) (h : F1 I0 I a t P x left (pN P) m) : m = tLz (pW P) x left := by
  have hV := turn_V (left := left) (lev := 0) hP hx1 hx
  obtain ⟨p, hp, he⟩ := cnt_ex _ (hV.2.2.2.2.2.2.1 0 hV.2.2.1)
  have h1 : tCol (pW P) x left (pC P p) = 0 := he
  have h2 := rawC_eq (left := left) hP hx1 hx (show p < pN P from hp)
  have h3 := h.2.2.1 p hp
  rcases h.2.2.2 with h4 | ⟨r, hr, h4⟩
  · have := rawC_b (left := left) hP hx hp; omega
  · have := rawC_eq (left := left) hP hx1 hx hr; omega
end FLD
