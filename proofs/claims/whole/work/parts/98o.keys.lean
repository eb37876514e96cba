/-! ===== packets as numbers ===== -/
def pcN (P : Pk) : Nat → Nat
  | 0 => if pU P 0 then 1 else 0
  | k + 1 => pcN P k * 64 + (8 * pC P k + pL P k)
def unC (N K p : Nat) : Nat := K / 64 ^ (N - 1 - p) % 64 / 8
def unL (N K p : Nat) : Nat := K / 64 ^ (N - 1 - p) % 64 % 8
def unU (N K : Nat) : Nat → Bool
  | 0 => decide (K / 64 ^ N % 2 = 1)
  | p + 1 => if unC N K (p + 1) = unC N K p then !unU N K p else unU N K p
def unW (N K : Nat) : Nat → Nat
  | 0 => 0
  | k + 1 => if unW N K k < unC N K k + 1 then unC N K k + 1 else unW N K k
def unP (N K : Nat) : Pk := (N, unW N K N, unC N K, unL N K, unU N K)
/-- alike, as far as there are parts -/
def PkE (P Q : Pk) : Prop := pN P = pN Q ∧ pW P = pW Q ∧ ∀ p, p < pN P → pC P p = pC Q p ∧ pL P p = pL Q p ∧ pU P p = pU Q p
theorem pcN_dv {P : Pk} {k : Nat} : ∀ j, (∀ p, p < k + j → 8 * pC P p + pL P p < 64) → pcN P (k + j) / 64 ^ j = pcN P k := by
  intro j
  induction j with
  | zero => intro _; simp
  | succ j ih =>
    intro h
    have h1 := h (k + j) (by omega)
    rw [show k + (j + 1) = (k + j) + 1 by omega]
    show (pcN P (k + j) * 64 + (8 * pC P (k + j) + pL P (k + j))) / 64 ^ (j + 1) = _
    rw [Nat.pow_succ, Nat.mul_comm (64 ^ j) 64, ← Nat.div_div_eq_div_mul, show (pcN P (k + j) * 64 + (8 * pC P (k + j) + pL P (k + j))) / 64 = pcN P (k + j) by omega]
    exact ih (fun p hp => h p (by omega))
theorem pcN_lt {P : Pk} : ∀ k, (∀ p, p < k → 8 * pC P p + pL P p < 64) → pcN P k < 2 * 64 ^ k := by
  intro k
  induction k with
  | zero => intro _; simp only [pcN]; split <;> omega
  | succ k ih =>
    intro h
    have := ih (fun p hp => h p (by omega))
    have := h k (by omega)
    simp only [pcN, Nat.pow_succ]
    omega
theorem PkV.d {P : Pk} (hP : PkV P) : ∀ p, p < pN P → pC P p < 8 ∧ pL P p < 8 ∧ 8 * pC P p + pL P p < 64 := by
  intro p hp
  obtain ⟨h1, h2⟩ := hP.2.2.2.2.1 p hp
  have h3 := cnt_le (pC P) (pC P p) (pN P)
  have h4 := hP.2.2.2.1
  have h5 := hP.2.1
  omega
theorem pcN_congr {P Q : Pk} (h : PkE P Q) (h1 : 1 ≤ pN P) : ∀ k, k ≤ pN P → pcN P k = pcN Q k := by
  intro k
  induction k with
  | zero => intro _; simp only [pcN]; rw [(h.2.2 0 (by omega)).2.2]
  | succ k ih =>
    intro hk
    simp only [pcN]
    rw [ih (by omega), (h.2.2 k (by omega)).1, (h.2.2 k (by omega)).2.1]
theorem un_dig {P : Pk} (hP : PkV P) {p : Nat} (hp : p < pN P) : pcN P (pN P) / 64 ^ (pN P - 1 - p) % 64 = 8 * pC P p + pL P p := by
  have h := pcN_dv (P := P) (k := p + 1) (pN P - 1 - p) (fun q hq => (hP.d q (by omega)).2.2)
  rw [show p + 1 + (pN P - 1 - p) = pN P by omega] at h
  rw [h]
  have := (hP.d p hp).2.2
  simp only [pcN]
  omega
theorem un_C {P : Pk} (hP : PkV P) {p : Nat} (hp : p < pN P) : unC (pN P) (pcN P (pN P)) p = pC P p ∧ unL (pN P) (pcN P (pN P)) p = pL P p := by
  unfold unC unL
  rw [un_dig hP hp]
  have := hP.d p hp
  omega
theorem un_U {P : Pk} (hP : PkV P) : ∀ p, p < pN P → unU (pN P) (pcN P (pN P)) p = pU P p := by
  intro p
  induction p with
  | zero =>
    intro hp
    have h := pcN_dv (P := P) (k := 0) (pN P) (fun q hq => (hP.d q (by omega)).2.2)
    rw [Nat.zero_add] at h
    simp only [unU]
    rw [h]
    simp only [pcN]
    by_cases hu : pU P 0 = true
    · simp [hu]
    · have hu' : pU P 0 = false := by revert hu; cases pU P 0 <;> simp
      simp [hu']
  | succ p ih =>
    intro hp
    have h0 := ih (by omega)
    simp only [unU]
    rw [(un_C hP hp).1, (un_C hP (show p < pN P by omega)).1, h0]
    rcases hP.2.2.2.2.2.2.2 p hp with ⟨h1, h2⟩ | ⟨h1, h2⟩
    · have : ¬ pC P (p + 1) = pC P p := by
        split at h2 <;> omega
      rw [if_neg this]
      exact h1
    · rw [if_pos h2.symm]
      revert h1
      cases pU P p <;> cases pU P (p + 1) <;> simp
theorem un_W {P : Pk} (hP : PkV P) : unW (pN P) (pcN P (pN P)) (pN P) = pW P := by
  have key : ∀ k, k ≤ pN P → unW (pN P) (pcN P (pN P)) k ≤ pW P ∧ ∀ p, p < k → pC P p + 1 ≤ unW (pN P) (pcN P (pN P)) k := by
    intro k
    induction k with
    | zero => intro _; exact ⟨Nat.zero_le _, fun p hp => absurd hp (by omega)⟩
    | succ k ih =>
      intro hk
      obtain ⟨i1, i2⟩ := ih (by omega)
      have hc := (hP.2.2.2.2.1 k (by omega)).1
      simp only [unW]
      rw [(un_C hP (show k < pN P by omega)).1]
      refine ⟨by split <;> omega, fun p hp => ?_⟩
      by_cases hz : p = k
      · subst hz; split <;> omega
      · have := i2 p (by omega)
        split <;> omega
  obtain ⟨k1, k2⟩ := key (pN P) (Nat.le_refl _)
  have h1 := hP.2.2.1
  obtain ⟨p, hp, hc⟩ := cnt_ex (pN P) (hP.2.2.2.2.2.2.1 (pW P - 1) (by omega))
  have := k2 p hp
  omega
/-- what a number is made of comes out of it -/
theorem un_E {P : Pk} (hP : PkV P) : PkE P (unP (pN P) (pcN P (pN P))) := ⟨rfl, (un_W hP).symm, fun p hp => ⟨(un_C hP hp).1.symm, (un_C hP hp).2.symm, (un_U hP p hp).symm⟩⟩
theorem PkE.cnt {P Q : Pk} (h : PkE P Q) (c : Nat) : cnt (pC P) c (pN P) = cnt (pC Q) c (pN Q) := by
  rw [← h.1]
  exact cnt_congr _ (fun p hp => by rw [(h.2.2 p hp).1])
theorem PkE.V {P Q : Pk} (h : PkE P Q) (hP : PkV P) : PkV Q := by
  obtain ⟨v1, v2, v3, v4, v5, v6, v7, v8⟩ := hP
  refine ⟨by rw [← h.1]; exact v1, by rw [← h.1]; exact v2, by rw [← h.2.1]; exact v3, by rw [← h.2.1]; exact v4, fun p hp => ?_, fun p q hp hq => ?_, fun c hc => ?_, fun p hp => ?_⟩
  · rw [← h.1] at hp
    rw [← h.cnt, ← h.2.1, ← (h.2.2 p hp).1, ← (h.2.2 p hp).2.1]
    exact v5 p hp
  · rw [← h.1] at hp hq
    rw [← (h.2.2 p hp).1, ← (h.2.2 p hp).2.1, ← (h.2.2 q hq).1, ← (h.2.2 q hq).2.1]
    exact v6 p q hp hq
  · rw [← h.2.1] at hc
    rw [← h.cnt]
    exact v7 c hc
  · rw [← h.1] at hp
    rw [← (h.2.2 p (by omega)).2.2, ← (h.2.2 (p + 1) hp).2.2, ← (h.2.2 p (by omega)).1, ← (h.2.2 (p + 1) hp).1]
    exact v8 p hp
theorem PkE.C {I : Nat → Nat → Int32} {a : Nat} {P Q : Pk} (h : PkE P Q) (hC : PkC I a P) : PkC I a Q := by
  obtain ⟨c1, c2, c3, c4, c5⟩ := hC
  refine ⟨by rw [← h.1]; exact c1, by rw [← h.2.1]; exact c2, fun p hp => ?_, fun c hc => by rw [← h.cnt]; exact c4 c hc, fun p hp => ?_⟩
  · rw [← h.1] at hp
    rw [← (h.2.2 p hp).1, ← (h.2.2 p hp).2.1, ← (h.2.2 p hp).2.2]
    exact c3 p hp
  · rw [← h.1] at hp
    rw [← (h.2.2 p hp).1, ← (h.2.2 p hp).2.1]
    exact c5 p hp
theorem PkE.M {I : Nat → Nat → Int32} {a q : Nat} {P Q : Pk} (h : PkE P Q) (hM : PkM I a q P) : PkM I a q Q := by
  obtain ⟨c1, c2, c3⟩ := hM
  refine ⟨by rw [← h.1]; exact c1, by rw [← h.2.1]; exact c2, fun p hp => ?_⟩
  rw [← h.1] at hp
  rw [← (h.2.2 p hp).1, ← (h.2.2 p hp).2.1, ← (h.2.2 p hp).2.2]
  exact c3 p hp
/-! whether layers pass through one another, to be reckoned -/
def btB (P : Pk) (i p : Nat) : Bool := Nat.blt (pL P i) (pL P p) != Nat.blt (pL P (i + 1)) (pL P p)
def clB (P : Pk) (i j : Nat) : Bool := if crs P i then (if crs P j then (pC P i == pC P j) && (btB P i j != btB P i (j + 1)) else btB P i (nearP P i j)) else (if crs P j then btB P j (nearP P j i) else Nat.blt (pL P i) (pL P (nearP P i j)) != Nat.blt (pL P (i + 1)) (pL P (farP P i j)))
def anyB (f : Nat → Bool) : Nat → Bool
  | 0 => false
  | k + 1 => f k || anyB f k
def passB (P : Pk) : Bool := anyB (fun i => anyB (fun j => (lin P i == lin P j) && clB P i j) i) (pN P - 1)
theorem anyB_iff {f : Nat → Bool} : ∀ n, anyB f n = true ↔ ∃ i, i < n ∧ f i = true := by
  intro n
  induction n with
  | zero => simp [anyB]
  | succ n ih =>
    simp only [anyB, Bool.or_eq_true, ih]
    constructor
    · rintro (h | ⟨i, h1, h2⟩)
      · exact ⟨n, by omega, h⟩
      · exact ⟨i, by omega, h2⟩
    · rintro ⟨i, h1, h2⟩
      by_cases hz : i = n
      · subst hz; exact Or.inl h2
      · exact Or.inr ⟨i, by omega, h2⟩
theorem blt_iff {a b : Nat} : Nat.blt a b = true ↔ a < b := by unfold Nat.blt; rw [Nat.ble_eq]; omega
theorem bne_b {a b : Bool} {p q : Prop} (ha : a = true ↔ p) (hb : b = true ↔ q) : (a != b) = true ↔ ¬ (p ↔ q) := by
  rw [← ha, ← hb]
  cases a <;> cases b <;> simp
theorem btB_iff {P : Pk} {i p : Nat} : btB P i p = true ↔ Bt P i p := bne_b blt_iff blt_iff
theorem clB_iff {P : Pk} {i j : Nat} : clB P i j = true ↔ Clash P i j := by
  unfold clB Clash
  split
  · split
    · rw [Bool.and_eq_true, beq_iff_eq, bne_b btB_iff btB_iff]
    · exact btB_iff
  · split
    · exact btB_iff
    · exact bne_b blt_iff blt_iff
theorem passB_iff {P : Pk} : passB P = true ↔ Pass P := by
  unfold passB Pass
  rw [anyB_iff]
  constructor
  · rintro ⟨i, h1, h2⟩
    rw [anyB_iff] at h2
    obtain ⟨j, h3, h4⟩ := h2
    rw [Bool.and_eq_true, beq_iff_eq, clB_iff] at h4
    exact ⟨i, j, h3, by omega, h4⟩
  · rintro ⟨i, j, h1, h2, h3⟩
    refine ⟨i, by omega, ?_⟩
    rw [anyB_iff]
    exact ⟨j, h1, by rw [Bool.and_eq_true, beq_iff_eq, clB_iff]; exact h3⟩
/-! what one more turn makes -/
def levD (d : Nat) : Nat := if d = 0 then 8 else d - 1
def mosK (N K : Nat) : Nat := mosN (unP N K) (pW (unP N K))
def kidP (N K x sd d : Nat) : Pk := turnP (unP N K) x (decide (sd = 0)) (levD d)
def kidM (N M K x sd d : Nat) : Nat := M ||| crN (unP N K) x (decide (sd = 0)) (decide (0 < levD d)) (N - 1)
def kidK (N K x sd d : Nat) : Nat := pcN (kidP N K x sd d) N
def kidB (N K x sd d : Nat) : Bool := decide (2 ≤ d) && passB (kidP N K x sd d)
def kid1 (N M K x sd d : Nat) : List (Nat × Nat × Nat) := if kidB N K x sd d then [] else [(100 * x + 10 * sd + d, kidM N M K x sd d, kidK N K x sd d)]
def kD (N M K x sd : Nat) : Nat → List (Nat × Nat × Nat)
  | 0 => []
  | d + 1 => kD N M K x sd d ++ kid1 N M K x sd d
def kS (N M K x : Nat) : Nat → List (Nat × Nat × Nat)
  | 0 => []
  | s + 1 => kS N M K x s ++ kD N M K x s (mosK N K + 1)
def kX (N M K : Nat) : Nat → List (Nat × Nat × Nat)
  | 0 => []
  | x + 1 => kX N M K x ++ kS N M K (x + 1) 2
def kidsL (N M K : Nat) : List (Nat × Nat × Nat) := kX N M K (pW (unP N K) - 1)
/-- a node: marks, packet -/
def VNd (N M K : Nat) : Prop := M < 2 ^ (2 * (N - 1)) ∧ K < 2 * 64 ^ N ∧ PkV (unP N K)
theorem kidP_V {N M K x sd d : Nat} (h : VNd N M K) (hx1 : 1 ≤ x) (hx : x < pW (unP N K)) : PkV (kidP N K x sd d) := turn_V h.2.2 hx1 hx
theorem kid_E {N M K x sd d : Nat} (h : VNd N M K) (hx1 : 1 ≤ x) (hx : x < pW (unP N K)) : PkE (kidP N K x sd d) (unP N (kidK N K x sd d)) := un_E (kidP_V h hx1 hx)
theorem kid_V {N M K x sd d : Nat} (h : VNd N M K) (hx1 : 1 ≤ x) (hx : x < pW (unP N K)) : VNd N (kidM N M K x sd d) (kidK N K x sd d) := by
  have hV := kidP_V (sd := sd) (d := d) h hx1 hx
  exact ⟨Nat.or_lt_two_pow h.1 (crN_lt (N - 1)), pcN_lt N (fun p hp => (hV.d p hp).2.2), (kid_E h hx1 hx).V hV⟩
