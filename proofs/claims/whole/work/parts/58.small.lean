/-! ===== what lies at a place ===== -/
def cnt2 (f g : Nat → Nat) (c y : Nat) : Nat → Nat
  | 0 => 0
  | k + 1 => cnt2 f g c y k + (if f k = c ∧ g k = y then 1 else 0)
theorem cnt2_zero {f g : Nat → Nat} {c y : Nat} : ∀ k, (∀ p, p < k → ¬ (f p = c ∧ g p = y)) → cnt2 f g c y k = 0 := by
  intro k
  induction k with
  | zero => intro _; rfl
  | succ k ih => intro h; simp only [cnt2]; rw [ih (fun p hp => h p (by omega)), if_neg (h k (by omega))]
theorem cnt2_le {f g : Nat → Nat} {c y : Nat} : ∀ k, (∀ p q, p < k → q < k → f p = c → f q = c → g p = y → g q = y → p = q) → cnt2 f g c y k ≤ 1 := by
  intro k
  induction k with
  | zero => intro _; simp [cnt2]
  | succ k ih =>
    intro h
    simp only [cnt2]
    by_cases hk : f k = c ∧ g k = y
    · rw [if_pos hk, cnt2_zero k (fun p hp hq => by have := h p k (by omega) (by omega) hq.1 hk.1 hq.2 hk.2; omega)]; omega
    · rw [if_neg hk]; exact ih (fun p q hp hq => h p q (by omega) (by omega))
def sum2 (f g : Nat → Nat) (c k : Nat) : Nat → Nat
  | 0 => 0
  | y + 1 => sum2 f g c k y + cnt2 f g c y k
theorem sum2_step {f g : Nat → Nat} {c k : Nat} : ∀ n, sum2 f g c (k + 1) n = sum2 f g c k n + (if f k = c ∧ g k < n then 1 else 0) := by
  intro n
  induction n with
  | zero => simp [sum2]
  | succ n ih =>
    simp only [sum2, ih, cnt2]
    by_cases h1 : f k = c
    · by_cases h2 : g k = n
      · rw [if_neg (show ¬ (f k = c ∧ g k < n) by omega), if_pos (show f k = c ∧ g k = n from ⟨h1, h2⟩), if_pos (show f k = c ∧ g k < n + 1 by omega)]; omega
      · by_cases h3 : g k < n
        · rw [if_pos (show f k = c ∧ g k < n from ⟨h1, h3⟩), if_neg (show ¬ (f k = c ∧ g k = n) by omega), if_pos (show f k = c ∧ g k < n + 1 by omega)]; omega
        · rw [if_neg (show ¬ (f k = c ∧ g k < n) by omega), if_neg (show ¬ (f k = c ∧ g k = n) by omega), if_neg (show ¬ (f k = c ∧ g k < n + 1) by omega)]; omega
    · rw [if_neg (fun z => h1 z.1), if_neg (fun z => h1 z.1), if_neg (fun z => h1 z.1)]; omega
theorem sum2_0 {f g : Nat → Nat} {c : Nat} : ∀ n, sum2 f g c 0 n = 0 := by
  intro n
  induction n with
  | zero => rfl
  | succ n ih => simp only [sum2, cnt2]; omega
theorem sum2_all {f g : Nat → Nat} {c n : Nat} : ∀ k, (∀ p, p < k → f p = c → g p < n) → sum2 f g c k n = cnt f c k := by
  intro k
  induction k with
  | zero => intro _; exact sum2_0 n
  | succ k ih =>
    intro h
    rw [sum2_step, ih (fun p hp => h p (by omega))]
    simp only [cnt]
    by_cases h1 : f k = c
    · rw [if_pos ⟨h1, h k (by omega) h1⟩, if_pos h1]
    · rw [if_neg (fun z => h1 z.1), if_neg h1]
theorem sum2_le {f g : Nat → Nat} {c k y0 : Nat} (h : ∀ y, cnt2 f g c y k ≤ 1) (h0 : cnt2 f g c y0 k = 0) : ∀ n, sum2 f g c k n ≤ n ∧ (y0 < n → sum2 f g c k n + 1 ≤ n) := by
  intro n
  induction n with
  | zero => simp [sum2]
  | succ n ih =>
    simp only [sum2]
    have := h n
    refine ⟨by omega, fun hy => ?_⟩
    by_cases he : y0 = n
    · subst he; omega
    · have := ih.2 (by omega); omega
/-- at every layer below a column's height there lies a part -/
theorem pk_at {P : Pk} (hP : PkV P) {c y : Nat} (hy : y < cnt (pC P) c (pN P)) : ∃ p, p < pN P ∧ pC P p = c ∧ pL P p = y := by
  refine Classical.byContradiction (fun hn => ?_)
  have h1 : cnt2 (pC P) (pL P) c y (pN P) = 0 := cnt2_zero _ (fun p hp hq => hn ⟨p, hp, hq⟩)
  have h2 : ∀ z, cnt2 (pC P) (pL P) c z (pN P) ≤ 1 := fun z => cnt2_le _ (fun p q hp hq e1 e2 e3 e4 => hP.2.2.2.2.2.1 p q hp hq (e1.trans e2.symm) (e3.trans e4.symm))
  have h3 := sum2_all (f := pC P) (g := pL P) (c := c) (n := cnt (pC P) c (pN P)) (pN P) (fun p hp he => by have := (hP.2.2.2.2.1 p hp).2; rw [he] at this; exact this)
  have h4 := (sum2_le h2 h1 (cnt (pC P) c (pN P))).2 hy
  omega
theorem fndY_spec {f g : Nat → Nat} {c y n p : Nat} (hf : ∀ r, r < n → f r < 2 ^ 31 ∧ g r < 2 ^ 31) (hc : c < 2 ^ 31) (hy : y < 2 ^ 31) (hp : p < n) (h1 : f p = c) (h2 : g p = y) (hu : ∀ r, r < n → f r = c → g r = y → r = p) : ∀ j, j ≤ n → n - j ≤ p → fndY f g (nI c) (nI y) n j = nI p := by
  intro j
  induction j with
  | zero => intro _ h; omega
  | succ j ih =>
    intro hj h
    simp only [fndY]
    by_cases he : nI (f (n - (j + 1))) = nI c ∧ nI (g (n - (j + 1))) = nI y
    · rw [if_pos he]
      have hl := hf (n - (j + 1)) (by omega)
      rw [hu (n - (j + 1)) (by omega) ((nI_eq hl.1 hc).mp he.1) ((nI_eq hl.2 hy).mp he.2)]
    · rw [if_neg he]
      refine ih (by omega) ?_
      rcases Nat.lt_or_ge (n - (j + 1)) p with q | q
      · omega
      · have e : n - (j + 1) = p := by omega
        rw [e, h1, h2] at he
        exact absurd ⟨rfl, rfl⟩ he
theorem fndY_none {f g : Nat → Nat} {c y : Int32} {n : Nat} (h : ∀ r, r < n → ¬ (nI (f r) = c ∧ nI (g r) = y)) : ∀ j, j ≤ n → fndY f g c y n j = -1 := by
  intro j
  induction j with
  | zero => intro _; rfl
  | succ j ih => intro hj; simp only [fndY]; rw [if_neg (h _ (by omega))]; exact ih (by omega)
/-- the part at a place, or -1 -/
def ptA (P : Pk) (x y : Int32) : Int32 := fndY (pC P) (pL P) x y (pN P) (pN P)
section PT
variable {P : Pk}
theorem PkV.b (hP : PkV P) : ∀ r, r < pN P → pC P r < 2 ^ 31 ∧ pL P r < 2 ^ 31 := fun r hr => by
  have h1 := hP.2.2.2.2.1 r hr
  have h2 := hP.2.2.2.1
  have h3 := hP.2.1
  have h4 := cnt_le (pC P) (pC P r) (pN P)
  omega
theorem ptA_at (hP : PkV P) {p : Nat} (hp : p < pN P) : ptA P (nI (pC P p)) (nI (pL P p)) = nI p :=
  fndY_spec hP.b (hP.b p hp).1 (hP.b p hp).2 hp rfl rfl (fun r hr e1 e2 => hP.2.2.2.2.2.1 r p hr hp e1 e2) (pN P) (Nat.le_refl _) (by omega)
theorem ptA_col (hP : PkV P) {x y : Int32} (h : x < 0 ∨ nI (pW P) ≤ x) : ptA P x y = -1 := by
  refine fndY_none (fun r hr z => ?_) _ (Nat.le_refl _)
  have h1 := hP.2.2.2.2.1 r hr
  have h2 := hP.2.2.2.1
  rw [← z.1] at h
  rcases h with h | h
  · exact nI_pos (hP.b r hr).1 h
  · rw [nI_leI (by omega) (by omega)] at h; omega
theorem ptA_lay (hP : PkV P) {c : Nat} {y : Int32} (hc : c < pW P) (h : y < 0 ∨ nI (cnt (pC P) c (pN P)) ≤ y) : ptA P (nI c) y = -1 := by
  refine fndY_none (fun r hr z => ?_) _ (Nat.le_refl _)
  have h1 := hP.2.2.2.2.1 r hr
  have h2 := hP.2.2.2.1
  have h3 := hP.2.1
  have h4 := cnt_le (pC P) c (pN P)
  have e := (nI_eq (hP.b r hr).1 (by omega)).mp z.1
  rw [← z.2] at h
  rcases h with h | h
  · exact nI_pos (hP.b r hr).2 h
  · rw [nI_leI (by omega) (hP.b r hr).2] at h; rw [e] at h1; omega
end PT
section SML
variable {γ : rG} {l : Launch} {sh : Nat × (Nat → Nat) × (Nat → Nat)} {I : Nat → Nat → Int32} {J : Nat → Nat → Int64} {R : Nat → Nat → Option Nat} {a q : Nat} {P : Pk}
theorem ct_partAt {x y : Int32} (hA : At2 sh R a) (hP : PkV P) (hC : PkC I a P) : rMet γ l m_X2_partAt [.ref a, .int x, .int y] (sh, I, J, R) (sh, I, J, R) (some (.int (ptA P x y))) := by
  have h2 := hP.2.2.2.1
  have h3 := hP.2.1
  refine e_X2_partAt (rW_pure (w_X2_partAt_0 hA ?_))
  by_cases hx : ¬ x < 0 ∧ x < nI (pW P)
  · obtain ⟨c, hc31, rfl⟩ := nI_of hx.1
    have hc := (nI_ltI hc31 (by omega)).mp hx.2
    have h4 := cnt_le (pC P) c (pN P)
    have hg : hgt P (nI c) = nI (cnt (pC P) c (pN P)) := by unfold hgt; rw [if_pos hx, nI_clamp hc31]
    refine ⟨fun z => ⟨rfl, ?_⟩, fun z => ⟨_, ct_heightOf hA hP.inn hC, fun y2 => ?_, fun y2 => ⟨rfl, ?_⟩⟩⟩
    · rw [ptA_lay hP hc (Or.inl z)]
    · obtain ⟨w, hw, rfl⟩ := nI_of z
      rw [hg, nI_ltI hw (by omega)] at y2
      obtain ⟨p, hp, e1, e2⟩ := pk_at hP y2
      rw [e8]
      refine ⟨vp_in_nI (by omega) (by decide), rfl, ?_⟩
      rw [nI_clamp (by omega), ← e1, ← e2, hC.2.2.2.2 p hp, ptA_at hP hp]
    · rw [hg] at y2
      rw [ptA_lay hP hc (Or.inr (Int32.not_lt.mp y2))]
  · have hx' : x < 0 ∨ nI (pW P) ≤ x := by
      by_cases h0 : x < 0
      · exact Or.inl h0
      · exact Or.inr (Int32.not_lt.mp (fun z => hx ⟨h0, z⟩))
    have hg : hgt P x = -1 := by unfold hgt; rw [if_neg hx]
    rw [ptA_col hP hx']
    refine ⟨fun z => ⟨rfl, rfl⟩, fun z => ⟨_, ct_heightOf hA hP.inn hC, fun y2 => ?_, fun y2 => ⟨rfl, rfl⟩⟩⟩
    rw [hg] at y2
    exact absurd (Int32.lt_trans y2 (by decide)) z
theorem ct_mptA {x y : Int32} (hA : At9 sh R a) (hq : q < 22) (hN : pN P ≤ 8) (hM : PkM I a q P) : rMet γ l m_X9_partAt [.ref a, .int (nI q), .int x, .int y] (sh, I, J, R) (sh, I, J, R) (some (.int (ptA P x y))) := ct_mpartAt hA hq hN hM
/-! how many turn -/
def tBy (P : Pk) (x : Int32) (left : Bool) : Nat → Nat
  | 0 => 0
  | k + 1 => tBy P x left k + (if decide (nI (pC P k) < x) == left then 1 else 0)
theorem turnedBy_loop {x : Int32} {left : Bool} (hA : At2 sh R a) (hN : pN P ≤ 8) (hC : PkC I a P) : ∀ j k, k + j = pN P → s_X2_turnedBy_5 γ l a x (nz left) (nI (tBy P x left k)) (nI k) (sh, I, J, R) (fun hf r => hf = (sh, I, J, R) ∧ r = some (.int (nI (tBy P x left (pN P))))) := by
  intro j
  induction j with
  | zero =>
    intro k hk
    have e : k = pN P := by omega
    subst e
    exact w_X2_turnedBy_5 hA ⟨fun _ => ⟨rfl, rfl⟩, fun z => absurd (by rw [hC.1]; exact nI_le (Nat.le_refl _) (by omega)) z⟩
  | succ j ih =>
    intro k hk
    have nx := ih (k + 1) (by omega)
    have hg : ¬ I a 0 ≤ nI k := by rw [hC.1]; exact nI_ge (by omega) (by omega)
    refine w_X2_turnedBy_5 hA ⟨fun z => absurd z hg, fun _ => ⟨vp_in_nI (by omega) (by decide), ?_⟩⟩
    rw [nI_clamp (by omega), (hC.2.2.1 k (by omega)).1, nI_1, nI_1]
    simp only [tBy] at nx
    refine ⟨fun z => ?_, fun z => ?_⟩
    · have hd : decide (nI (pC P k) < x) = false := by rw [decide_eq_false_iff_not]; exact Int32.not_lt.mpr z
      rw [hd] at nx
      cases left
      · exact ⟨fun _ => nx, fun w => absurd (by decide) w⟩
      · exact ⟨fun w => absurd w (by decide), fun _ => nx⟩
    · have hd : decide (nI (pC P k) < x) = true := by rw [decide_eq_true_eq]; exact Int32.not_le.mp z
      rw [hd] at nx
      cases left
      · exact ⟨fun w => absurd w (by decide), fun _ => nx⟩
      · exact ⟨fun _ => nx, fun w => absurd (by decide) w⟩
theorem ct_turnedBy {x : Int32} {left : Bool} (hA : At2 sh R a) (hN : pN P ≤ 8) (hC : PkC I a P) : rMet γ l m_X2_turnedBy [.ref a, .int x, .int (nz left)] (sh, I, J, R) (sh, I, J, R) (some (.int (nI (tBy P x left (pN P))))) :=
  e_X2_turnedBy (rW_pure (w_X2_turnedBy_0 hA (turnedBy_loop hA hN hC (pN P) 0 (by omega))))
theorem mturnedBy_loop {x : Nat} {left : Bool} (hA : At9 sh R a) (hq : q < 22) (hx : x < 2 ^ 31) (hb : ∀ r, r < pN P → pC P r < 2 ^ 31) (hN : pN P ≤ 8) (hM : PkM I a q P) (h48 : I a 48 = nI q) : ∀ j k, k + j = pN P → s_X9_turnedBy_5 γ l a (nI x) (nz left) (nI (tBy P (nI x) left k)) (nI k) (sh, I, J, R) (fun hf r => hf = (sh, I, J, R) ∧ r = some (.int (nI (tBy P (nI x) left (pN P))))) := by
  intro j
  induction j with
  | zero =>
    intro k hk
    have e : k = pN P := by omega
    subst e
    exact w_X9_turnedBy_5 hA ⟨fun _ => ⟨rfl, rfl⟩, fun z => absurd (by rw [hM.1]; exact nI_le (Nat.le_refl _) (by omega)) z⟩
  | succ j ih =>
    intro k hk
    have nx := ih (k + 1) (by omega)
    have hg : ¬ I a 39 ≤ nI k := by rw [hM.1]; exact nI_ge (by omega) (by omega)
    refine w_X9_turnedBy_5 hA ⟨fun z => absurd z hg, fun _ => ?_⟩
    rw [h48]
    refine ⟨_, ct_turns hA hq hN hM (by omega) hx (hb k (by omega)), ?_⟩
    rw [nz_0, nI_1, nI_1]
    simp only [tBy] at nx
    have e : (decide (nI (pC P k) < nI x) == left) = tMv x left (pC P k) := by
      unfold tMv
      have : decide (nI (pC P k) < nI x) = decide (pC P k < x) := by rw [decide_eq_decide]; exact nI_ltI (hb k (by omega)) hx
      rw [this]
    rw [e] at nx
    refine ⟨fun z => ?_, fun z => ?_⟩
    · rw [z] at nx; exact nx
    · have z' : tMv x left (pC P k) = true := by simpa using z
      rw [z'] at nx; exact nx
theorem ct_mturnedBy {x : Nat} {left : Bool} (hA : At9 sh R a) (hq : q < 22) (hx : x < 2 ^ 31) (hb : ∀ r, r < pN P → pC P r < 2 ^ 31) (hN : pN P ≤ 8) (hM : PkM I a q P) (h48 : I a 48 = nI q) : rMet γ l m_X9_turnedBy [.ref a, .int (nI x), .int (nz left)] (sh, I, J, R) (sh, I, J, R) (some (.int (nI (tBy P (nI x) left (pN P))))) :=
  e_X9_turnedBy (rW_pure (w_X9_turnedBy_0 hA (mturnedBy_loop hA hq hx hb hN hM h48 (pN P) 0 (by omega))))
end SML
