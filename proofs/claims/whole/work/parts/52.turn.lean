/-! ===== a turn of a packet ===== -/
/-- which columns turn at line x -/
def tMv (x : Nat) (left : Bool) (c : Nat) : Bool := decide (c < x) == left
def tSh (w x : Nat) : Nat := if 2 * x < w then w - 2 * x else 0
/-- the new column -/
def tCol (w x : Nat) (left : Bool) (c : Nat) : Nat := if left then (if c < x then x - 1 - c else c - x) else (if c < x then c + tSh w x else 2 * x + tSh w x - 1 - c)
/-- the pile across the line -/
def tPile (P : Pk) (x c : Nat) : Nat := if c < 2 * x then cnt (pC P) (2 * x - 1 - c) (pN P) else 0
def tLay (P : Pk) (x : Nat) (left : Bool) (lev c q : Nat) : Nat := if tMv x left c then (if tPile P x c < lev then tPile P x c else lev) + (cnt (pC P) c (pN P) - 1 - q) else (if q < lev then q else q + tPile P x c)
def turnP (P : Pk) (x : Nat) (left : Bool) (lev : Nat) : Pk := (pN P, (if x < pW P - x then pW P - x else x), fun p => tCol (pW P) x left (pC P p), fun p => tLay P x left lev (pC P p) (pL P p), fun p => if tMv x left (pC P p) then !pU P p else pU P p)
/-- a packet as folds leave it -/
def PkV (P : Pk) : Prop := 2 ≤ pN P ∧ pN P ≤ 8 ∧ 1 ≤ pW P ∧ pW P ≤ 8 ∧ (∀ p, p < pN P → pC P p < pW P ∧ pL P p < cnt (pC P) (pC P p) (pN P)) ∧ (∀ p q, p < pN P → q < pN P → pC P p = pC P q → pL P p = pL P q → p = q) ∧ (∀ c, c < pW P → 0 < cnt (pC P) c (pN P))
  ∧ ∀ p, p + 1 < pN P → (pU P p = pU P (p + 1) ∧ (if pU P p then pC P (p + 1) = pC P p + 1 else pC P p = pC P (p + 1) + 1)) ∨ (pU P p ≠ pU P (p + 1) ∧ pC P p = pC P (p + 1))
theorem PkV.inn {P : Pk} (h : PkV P) : PkIn P := by
  obtain ⟨h1, h2, h3, h4, h5, h6, h7, h8⟩ := h
  refine ⟨h2, h4, fun p hp => ⟨(h5 p hp).1, ?_⟩, h6⟩
  have := (h5 p hp).2
  have := cnt_le (pC P) (pC P p) (pN P)
  omega
theorem cnt_pos {f : Nat → Nat} {c : Nat} : ∀ k, (∃ p, p < k ∧ f p = c) → 0 < cnt f c k := by
  intro k
  induction k with
  | zero => intro ⟨p, hp, _⟩; omega
  | succ k ih =>
    intro ⟨p, hp, he⟩
    simp only [cnt]
    by_cases hk : p = k
    · subst hk; rw [if_pos he]; omega
    · have := ih ⟨p, by omega, he⟩; omega
theorem cnt_zero {f : Nat → Nat} {c : Nat} : ∀ k, (∀ p, p < k → f p ≠ c) → cnt f c k = 0 := by
  intro k
  induction k with
  | zero => intro _; rfl
  | succ k ih =>
    intro h
    simp only [cnt]
    rw [ih (fun p hp => h p (by omega)), if_neg (h k (by omega))]
theorem cnt_ex {f : Nat → Nat} {c : Nat} : ∀ k, 0 < cnt f c k → ∃ p, p < k ∧ f p = c := by
  intro k
  induction k with
  | zero => intro h; simp [cnt] at h
  | succ k ih =>
    intro h
    by_cases hk : f k = c
    · exact ⟨k, by omega, hk⟩
    · simp only [cnt, if_neg hk] at h
      obtain ⟨p, hp, he⟩ := ih (by omega)
      exact ⟨p, by omega, he⟩
/-- two old columns meet in a new one -/
theorem cnt_two {f g : Nat → Nat} {c a b : Nat} (hab : a ≠ b) : ∀ k, (∀ p, p < k → (g p = c ↔ f p = a ∨ f p = b)) → cnt g c k = cnt f a k + cnt f b k := by
  intro k
  induction k with
  | zero => intro _; rfl
  | succ k ih =>
    intro h
    simp only [cnt]
    rw [ih (fun p hp => h p (by omega))]
    have hk := h k (by omega)
    by_cases h1 : f k = a
    · rw [if_pos (hk.mpr (Or.inl h1)), if_pos h1, if_neg (fun z => hab (h1.symm.trans z))]; omega
    · by_cases h2 : f k = b
      · rw [if_pos (hk.mpr (Or.inr h2)), if_neg h1, if_pos h2]; omega
      · rw [if_neg (fun z => (hk.mp z).elim h1 h2), if_neg h1, if_neg h2]; omega
theorem cnt_same {f g : Nat → Nat} {c d : Nat} : ∀ k, (∀ p, p < k → (f p = c ↔ g p = d)) → cnt f c k = cnt g d k := by
  intro k
  induction k with
  | zero => intro _; rfl
  | succ k ih =>
    intro h
    simp only [cnt]
    rw [ih (fun p hp => h p (by omega))]
    have := h k (by omega)
    by_cases hc : f k = c
    · rw [if_pos hc, if_pos (this.mp hc)]
    · rw [if_neg hc, if_neg (fun q => hc (this.mpr q))]
/-- old columns that come to the same new one: the same, or across the line -/
theorem tCol_eq {w x c d : Nat} {left : Bool} (hx1 : 1 ≤ x) (hx : x < w) (hc : c < w) (hd : d < w) : tCol w x left c = tCol w x left d ↔ c = d ∨ (c + d + 1 = 2 * x) := by
  unfold tCol tSh
  cases left <;> simp only [if_true, if_false, Bool.false_eq_true] <;> (repeat' split) <;> omega
theorem tCol_lt {w x c : Nat} {left : Bool} (hx1 : 1 ≤ x) (hx : x < w) (hc : c < w) : tCol w x left c < (if x < w - x then w - x else x) := by
  unfold tCol tSh
  cases left <;> simp only [if_true, if_false, Bool.false_eq_true] <;> (repeat' split) <;> omega
section TRN
variable {P : Pk} {x lev : Nat} {left : Bool}
theorem tPile_zero (hP : PkV P) {c : Nat} (h : ¬ (c < 2 * x ∧ 2 * x - 1 - c < pW P)) : tPile P x c = 0 := by
  unfold tPile
  split
  · rename_i hc
    refine cnt_zero _ (fun p hp => ?_)
    have := (hP.2.2.2.2.1 p hp).1
    intro z
    omega
  · rfl
/-- how many lie in a new column: the old one's and those across -/
theorem turn_cnt (hP : PkV P) (hx1 : 1 ≤ x) (hx : x < pW P) {c : Nat} (hc : c < pW P) : cnt (pC (turnP P x left lev)) (tCol (pW P) x left c) (pN P) = cnt (pC P) c (pN P) + tPile P x c := by
  by_cases h : c < 2 * x
  · unfold tPile
    rw [if_pos h]
    refine cnt_two (by omega) _ (fun p hp => ?_)
    have hp2 := (hP.2.2.2.2.1 p hp).1
    show tCol (pW P) x left (pC P p) = tCol (pW P) x left c ↔ _
    rw [tCol_eq hx1 hx hp2 hc]
    omega
  · unfold tPile
    rw [if_neg h, Nat.add_zero]
    refine cnt_same _ (fun p hp => ?_)
    have hp2 := (hP.2.2.2.2.1 p hp).1
    show tCol (pW P) x left (pC P p) = tCol (pW P) x left c ↔ _
    rw [tCol_eq hx1 hx hp2 hc]
    omega
theorem tMv_across {c d : Nat} (h : c + d + 1 = 2 * x) : tMv x left c = !tMv x left d := by
  unfold tMv
  have : decide (c < x) = !decide (d < x) := by
    by_cases h1 : c < x
    · have h2 : ¬ d < x := by omega
      simp [h1, h2]
    · have h2 : d < x := by omega
      simp [h1, h2]
  rw [this]
  cases decide (d < x) <;> cases left <;> rfl
theorem tPile_across {c d : Nat} (h : c + d + 1 = 2 * x) : tPile P x c = cnt (pC P) d (pN P) := by
  unfold tPile
  rw [if_pos (by omega), show 2 * x - 1 - c = d by omega]
theorem turn_lay_lt (hP : PkV P) (hx1 : 1 ≤ x) (hx : x < pW P) {p : Nat} (hp : p < pN P) : tLay P x left lev (pC P p) (pL P p) < cnt (pC P) (pC P p) (pN P) + tPile P x (pC P p) := by
  have h := (hP.2.2.2.2.1 p hp).2
  unfold tLay
  split
  · split <;> omega
  · split <;> omega
theorem turn_inj (hP : PkV P) (hx1 : 1 ≤ x) (hx : x < pW P) {p q : Nat} (hp : p < pN P) (hq : q < pN P) (hc : tCol (pW P) x left (pC P p) = tCol (pW P) x left (pC P q)) (hl : tLay P x left lev (pC P p) (pL P p) = tLay P x left lev (pC P q) (pL P q)) : p = q := by
  have hp1 := hP.2.2.2.2.1 p hp
  have hq1 := hP.2.2.2.2.1 q hq
  rw [tCol_eq hx1 hx hp1.1 hq1.1] at hc
  rcases hc with hc | hc
  · refine hP.2.2.2.2.2.1 p q hp hq hc ?_
    unfold tLay at hl
    rw [hc] at hl
    rw [hc] at hp1
    split at hl
    · omega
    · split at hl <;> split at hl <;> omega
  · exfalso
    have hm := tMv_across (left := left) hc
    have e1 := tPile_across (P := P) hc
    have e2 := tPile_across (P := P) (x := x) (c := pC P q) (d := pC P p) (by omega)
    unfold tLay at hl
    rw [hm, e1, e2] at hl
    cases hmq : tMv x left (pC P q) <;> simp only [hmq, Bool.not_true, Bool.not_false, Bool.false_eq_true, if_true, if_false] at hl <;> (repeat' split at hl) <;> omega
theorem turn_V (hP : PkV P) (hx1 : 1 ≤ x) (hx : x < pW P) : PkV (turnP P x left lev) := by
  obtain ⟨h1, h2, h3, h4, h5, h6, h7, h8⟩ := id hP
  have hw : (if x < pW P - x then pW P - x else x) ≤ 8 ∧ 1 ≤ (if x < pW P - x then pW P - x else x) := by split <;> omega
  refine ⟨h1, h2, hw.2, hw.1, fun p hp => ⟨tCol_lt hx1 hx (h5 p hp).1, ?_⟩, fun p q hp hq hc hl => turn_inj hP hx1 hx hp hq hc hl, fun c hc => ?_, fun p hp => ?_⟩
  · show tLay P x left lev (pC P p) (pL P p) < cnt (pC (turnP P x left lev)) (tCol (pW P) x left (pC P p)) (pN P)
    rw [turn_cnt hP hx1 hx (h5 p hp).1]
    exact turn_lay_lt hP hx1 hx hp
  · have hex : ∃ d, d < pW P ∧ tCol (pW P) x left d = c := by
      have hc' : c < (if x < pW P - x then pW P - x else x) := hc
      unfold tCol tSh
      cases left
      · by_cases hb : 2 * x < pW P
        · refine ⟨pW P - 1 - c, by omega, ?_⟩
          simp only [Bool.false_eq_true, if_false]
          rw [if_pos hb] 
          have : c < pW P - x := by split at hc' <;> omega
          rw [if_neg (by omega)]
          omega
        · refine ⟨c, by split at hc' <;> omega, ?_⟩
          have : c < x := by split at hc' <;> omega
          simp only [Bool.false_eq_true, if_false]
          rw [if_pos this, if_neg hb]
          omega
      · by_cases hb : x < pW P - x
        · refine ⟨c + x, by rw [if_pos hb] at hc'; omega, ?_⟩
          simp only [if_true]
          rw [if_neg (by omega)]
          omega
        · refine ⟨x - 1 - c, by omega, ?_⟩
          rw [if_neg hb] at hc'
          simp only [if_true]
          rw [if_pos (by omega)]
          omega
    obtain ⟨d, hd, rfl⟩ := hex
    show 0 < cnt (pC (turnP P x left lev)) (tCol (pW P) x left d) (pN P)
    rw [turn_cnt hP hx1 hx hd]
    have := h7 d hd
    omega
  · have hp1 := (h5 p (by show p < pN P; have : p + 1 < pN P := hp; omega)).1
    have hp2 := (h5 (p + 1) hp).1
    have ha := h8 p hp
    show ((if tMv x left (pC P p) then !pU P p else pU P p) = (if tMv x left (pC P (p + 1)) then !pU P (p + 1) else pU P (p + 1)) ∧ (if (if tMv x left (pC P p) then !pU P p else pU P p) then tCol (pW P) x left (pC P (p + 1)) = tCol (pW P) x left (pC P p) + 1 else tCol (pW P) x left (pC P p) = tCol (pW P) x left (pC P (p + 1)) + 1)) ∨ ((if tMv x left (pC P p) then !pU P p else pU P p) ≠ (if tMv x left (pC P (p + 1)) then !pU P (p + 1) else pU P (p + 1)) ∧ tCol (pW P) x left (pC P p) = tCol (pW P) x left (pC P (p + 1)))
    rcases ha with ⟨a1, a2⟩ | ⟨a1, a2⟩
    · rw [← a1]
      generalize pC P p = c at *
      generalize pC P (p + 1) = d at *
      generalize pU P p = u at *
      unfold tMv tCol tSh
      cases left <;> cases u <;> simp only [if_true, if_false, Bool.false_eq_true, Bool.not_true, Bool.not_false] at a2 ⊢ <;> by_cases hcx : c < x <;> by_cases hdx : d < x <;> simp [hcx, hdx] <;> (repeat' split) <;> omega
    · right
      rw [a2]
      refine ⟨?_, rfl⟩
      split
      · intro z; exact a1 (by simpa using z)
      · exact a1
end TRN
