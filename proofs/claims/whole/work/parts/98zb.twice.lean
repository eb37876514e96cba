/-! ===== shut twice: the class ===== -/
def wb (v : Int32) (r : Nat) : Bool := v.toBitVec.toNat.testBit r
theorem wb_or (v w : Int32) (r : Nat) : wb (v ||| w) r = (wb v r || wb w r) := by unfold wb; rw [Int32.toBitVec_or, BitVec.toNat_or, Nat.testBit_or]
theorem wb_and (v w : Int32) (r : Nat) : wb (v &&& w) r = (wb v r && wb w r) := by unfold wb; rw [Int32.toBitVec_and, BitVec.toNat_and, Nat.testBit_and]
theorem wb_hi (v : Int32) {r : Nat} (h : 32 ≤ r) : wb v r = false := by
  unfold wb
  exact bt_ge (n := 32) v.toBitVec.isLt r h
theorem wb_0 (r : Nat) : wb 0 r = false := by unfold wb; show (0 : Nat).testBit r = false; exact Nat.zero_testBit r
theorem wb_sh {k : Nat} (hk : k < 32) (r : Nat) : wb ((1 : Int32) <<< (nI k &&& 31)) r = decide (r = k) := by
  unfold wb
  rw [pk_shl 1 _ k (bt_sm hk)]
  have e : (1 : Int32).toBitVec.toNat * 2 ^ k % 2 ^ 32 = 2 ^ k := by
    rw [show (1 : Int32).toBitVec.toNat = 1 from rfl, Nat.one_mul]
    exact Nat.mod_eq_of_lt (Nat.pow_lt_pow_right (by decide) hk)
  rw [e, Nat.testBit_two_pow]
  rw [decide_eq_decide]
  exact eq_comm
theorem wb_us {v s : Int32} {k : Nat} (hs : ((s.toUInt32 &&& Int32.toUInt32 31).toBitVec % 32).toNat = k) (r : Nat) : wb (v.toUInt32 >>> (s.toUInt32 &&& Int32.toUInt32 31)).toInt32 r = wb v (r + k) := by
  unfold wb
  rw [pk_ushr v s k hs, Nat.testBit_div_two_pow]
theorem wb_get {v : Int32} {k : Nat} (hk : k < 32) : ((v >>> (nI k &&& 31)) &&& 1 = 1) ↔ wb v k = true := by
  have e : (v >>> (nI k &&& 31)).toBitVec.getLsbD 0 = wb v k := by
    have e1 : (v >>> (nI k &&& 31)).toBitVec = v.toBitVec.sshiftRight ((nI k &&& 31).toBitVec.smod 32).toNat := rfl
    rw [e1, bt_sm hk, BitVec.getLsbD_sshiftRight]
    simp [hk]
    rfl
  have e2 : ((v >>> (nI k &&& 31)) &&& 1) = nI ((v >>> (nI k &&& 31)).toBitVec.toNat % 2) := pk_and _ 1 (by decide)
  have e3 : (v >>> (nI k &&& 31)).toBitVec.getLsbD 0 = decide ((v >>> (nI k &&& 31)).toBitVec.toNat % 2 = 1) := by
    rw [BitVec.getLsbD, Nat.testBit_zero]
  rw [e2, ← e, e3, decide_eq_true_eq, show (1 : Int32) = nI 1 from rfl, nI_eq (by omega) (by decide)]
theorem bt_dif {x y : Nat} (hx : x < 2 ^ 31) (hy : y < 2 ^ 31) : nI x &&& (nI y ^^^ (-1 : Int32)) = nI (x ^^^ (x &&& y)) := by
  have hxy : x ^^^ (x &&& y) < 2 ^ 31 := Nat.xor_lt_two_pow hx (and_31 hx)
  apply bt_ext
  rw [bt_tn hxy, Int32.toBitVec_and, Int32.toBitVec_xor, BitVec.toNat_and, BitVec.toNat_xor, bt_tn hx, bt_tn hy]
  apply Nat.eq_of_testBit_eq
  intro i
  rw [Nat.testBit_and, Nat.testBit_xor, Nat.testBit_xor, Nat.testBit_and]
  by_cases hi : i < 32
  · have e : (-1 : Int32).toBitVec.toNat.testBit i = true := by
      rw [show (-1 : Int32).toBitVec = BitVec.allOnes 32 from by decide, BitVec.toNat_allOnes, Nat.testBit_two_pow_sub_one]
      exact decide_eq_true hi
    rw [e]
    cases x.testBit i <;> cases y.testBit i <;> rfl
  · rw [bt_ge (n := 31) hx i (by omega)]
    simp
/-- closed downwards in the first b bits -/
def Cl (S : Nat → Prop) (b y : Nat) : Prop := ∃ z, S z ∧ (∀ k, b ≤ k → z.testBit k = y.testBit k) ∧ ∀ k, k < b → y.testBit k = true → z.testBit k = true
theorem Cl_0 {S : Nat → Prop} {y : Nat} : Cl S 0 y ↔ S y := by
  constructor
  · rintro ⟨z, h1, h2, _⟩
    have : z = y := Nat.eq_of_testBit_eq (fun i => h2 i (by omega))
    rw [← this]; exact h1
  · intro h
    exact ⟨y, h, fun _ _ => rfl, fun k hk => absurd hk (by omega)⟩
theorem Cl_t {S : Nat → Prop} {b y : Nat} (h : y.testBit b = true) : Cl S (b + 1) y ↔ Cl S b y := by
  constructor
  · rintro ⟨z, h1, h2, h3⟩
    refine ⟨z, h1, fun k hk => ?_, fun k hk => h3 k (by omega)⟩
    by_cases e : k = b
    · subst e; rw [h, h3 k (by omega) h]
    · exact h2 k (by omega)
  · rintro ⟨z, h1, h2, h3⟩
    refine ⟨z, h1, fun k hk => h2 k (by omega), fun k hk hy => ?_⟩
    by_cases e : k = b
    · subst e; rw [h2 k (Nat.le_refl _)]; exact hy
    · exact h3 k (by omega) hy
theorem Cl_f {S : Nat → Prop} {b y : Nat} (h : y.testBit b = false) : Cl S (b + 1) y ↔ (Cl S b y ∨ Cl S b (y ||| 2 ^ b)) := by
  have hb : ∀ k, (y ||| 2 ^ b).testBit k = (y.testBit k || decide (b = k)) := fun k => by rw [Nat.testBit_or, Nat.testBit_two_pow]
  constructor
  · rintro ⟨z, h1, h2, h3⟩
    cases hz : z.testBit b with
    | false =>
      refine Or.inl ⟨z, h1, fun k hk => ?_, fun k hk => h3 k (by omega)⟩
      by_cases e : k = b
      · subst e; rw [h, hz]
      · exact h2 k (by omega)
    | true =>
      refine Or.inr ⟨z, h1, fun k hk => ?_, fun k hk hy => ?_⟩
      · rw [hb]
        by_cases e : k = b
        · subst e; rw [hz]; simp
        · rw [h2 k (by omega)]; simp; omega
      · rw [hb] at hy
        have : ¬ b = k := by omega
        simp [this] at hy
        exact h3 k (by omega) hy
  · rintro (⟨z, h1, h2, h3⟩ | ⟨z, h1, h2, h3⟩)
    · refine ⟨z, h1, fun k hk => h2 k (by omega), fun k hk hy => ?_⟩
      by_cases e : k = b
      · subst e; rw [h] at hy; exact absurd hy (by decide)
      · exact h3 k (by omega) hy
    · refine ⟨z, h1, fun k hk => ?_, fun k hk hy => ?_⟩
      · rw [h2 k (by omega), hb]
        have : ¬ b = k := by omega
        simp [this]
      · by_cases e : k = b
        · subst e; rw [h] at hy; exact absurd hy (by decide)
        · exact h3 k (by omega) (by rw [hb, hy]; rfl)
theorem Cl_14 {S : Nat → Prop} {y : Nat} (hy : y < 2 ^ 14) (hS : ∀ z, S z → z < 2 ^ 14) : Cl S 14 y ↔ ∃ z, S z ∧ ∀ k, y.testBit k = true → z.testBit k = true := by
  constructor
  · rintro ⟨z, h1, h2, h3⟩
    refine ⟨z, h1, fun k hk => ?_⟩
    rcases Nat.lt_or_ge k 14 with e | e
    · exact h3 k e hk
    · rw [h2 k e]; exact hk
  · rintro ⟨z, h1, h2⟩
    refine ⟨z, h1, fun k hk => ?_, fun k _ hk => h2 k hk⟩
    rw [bt_ge (hS z h1) k hk, bt_ge hy k hk]
/-! words of 32 -/
theorem w32_lo {w r b : Nat} (hr : r < 32) (hb : b < 5) : (32 * w + r) ||| 2 ^ b = 32 * w + (r ||| 2 ^ b) := by
  have h1 : r ||| 2 ^ b < 2 ^ 5 := Nat.or_lt_two_pow hr (Nat.pow_lt_pow_right (by decide) hb)
  have e1 := Nat.two_pow_add_eq_or_of_lt (i := 5) (b := r) hr w
  have e2 := Nat.two_pow_add_eq_or_of_lt (i := 5) (b := r ||| 2 ^ b) h1 w
  rw [show 32 * w + r = 2 ^ 5 * w + r from rfl, e1, Nat.or_assoc, ← e2]
theorem w32_tl {w r b : Nat} (hr : r < 32) (hb : b < 5) : (32 * w + r).testBit b = r.testBit b := by
  have e1 := Nat.two_pow_add_eq_or_of_lt (i := 5) (b := r) hr w
  rw [show 32 * w + r = 2 ^ 5 * w + r from rfl, e1, Nat.testBit_or, Nat.testBit_two_pow_mul]
  simp
  intro h
  omega
theorem w32_th {w r s : Nat} (hr : r < 32) : (32 * w + r).testBit (5 + s) = w.testBit s := by
  have e1 := Nat.two_pow_add_eq_or_of_lt (i := 5) (b := r) hr w
  rw [show 32 * w + r = 2 ^ 5 * w + r from rfl, e1, Nat.testBit_or, Nat.testBit_two_pow_mul, bt_ge (n := 5) hr (5 + s) (by omega)]
  simp
theorem w32_hi {w r s : Nat} (hr : r < 32) : (32 * w + r) ||| 2 ^ (5 + s) = 32 * (w ||| 2 ^ s) + r := by
  apply Nat.eq_of_testBit_eq
  intro i
  have e1 := Nat.two_pow_add_eq_or_of_lt (i := 5) (b := r) hr w
  have e2 := Nat.two_pow_add_eq_or_of_lt (i := 5) (b := r) hr (w ||| 2 ^ s)
  rw [show 32 * w + r = 2 ^ 5 * w + r from rfl, show 32 * (w ||| 2 ^ s) + r = 2 ^ 5 * (w ||| 2 ^ s) + r from rfl, e1, e2]
  rw [Nat.testBit_or, Nat.testBit_or, Nat.testBit_or, Nat.testBit_two_pow_mul, Nat.testBit_two_pow_mul, Nat.testBit_two_pow, Nat.testBit_or, Nat.testBit_two_pow]
  by_cases hi : 5 ≤ i
  · have : decide (5 + s = i) = decide (s = i - 5) := by rw [decide_eq_decide]; omega
    rw [this]
    simp [hi]
    cases w.testBit (i - 5) <;> cases r.testBit i <;> cases decide (s = i - 5) <;> rfl
  · have : decide (5 + s = i) = false := decide_eq_false (by omega)
    rw [this]
    simp [hi]
theorem r5_t : ∀ b, b < 5 → ∀ r, r < 32 → r.testBit b = true → 32 ≤ r + 2 ^ b ∨ (r + 2 ^ b).testBit b = false := by decide +kernel
theorem r5_f : ∀ b, b < 5 → ∀ r, r < 32 → r.testBit b = false → r + 2 ^ b = r ||| 2 ^ b ∧ r + 2 ^ b < 32 ∧ (r + 2 ^ b).testBit b = true := by decide +kernel
theorem wWITH : ∀ b, b < 5 → ∀ r, r < 32 → wb (rWITH b) r = r.testBit b := by decide +kernel
theorem sh5 : ∀ b, b < 5 → ((((1 : Int32) <<< (nI b &&& 31)).toUInt32 &&& Int32.toUInt32 31).toBitVec % 32).toNat = 2 ^ b := by decide +kernel
theorem w9_t : ∀ s, s < 9 → ∀ w, w < 512 → w.testBit s = true → 2 ^ s ≤ w ∧ (w - 2 ^ s) ||| 2 ^ s = w ∧ (w - 2 ^ s).testBit s = false := by decide +kernel
theorem w9_f : ∀ s, s < 9 → ∀ w, w < 512 → w.testBit s = false → (w + 2 ^ s).testBit s = true ∧ w + 2 ^ s < 512 := by decide +kernel
/-- the set that the words tell -/
def WS (I : Nat → Nat → Int32) (c : Nat) (S : Nat → Prop) : Prop := ∀ w r, w < 512 → r < 32 → (wb (I c w) r = true ↔ S (32 * w + r))
def onm (N : Nat) (F : Fnd) (x : En) : Nat := x.1.1 &&& ckN N F
def sbC (N : Nat) (F : Fnd) (x : Nat) : Prop := ∀ k, x.testBit k = true → (crF N F).testBit k = true
/-- the creases, as far as known, of the first i entries that have none beyond the known ones -/
def S0 (N : Nat) (F : Fnd) (L : List En) (i : Nat) (y : Nat) : Prop := ∃ j, j < i ∧ onm N F (gE L j) = y ∧ sbC N F y
section TWI
variable {γ : rG} {l : Launch} {sh : Nat × (Nat → Nat) × (Nat → Nat)} {I : Nat → Nat → Int32} {J : Nat → Nat → Int64} {R : Nat → Nat → Option Nat} {a N : Nat} {F : Fnd} {L : List En} {Q : rHeap → Option Value → Prop}
theorem cw_words {s : Nat} (hA : At0 sh R a) (hs : s < 9) {S : Nat → Prop} (K : ∀ I2, WS I2 (a + 25) (Cl S (5 + s + 1)) → Sm (fun b _ => b = a + 25) I I2 → s_X0_collectWithin_129 γ l a (nI (2 ^ s) * 2) (sh, I2, J, R) Q) :
    ∀ j w I1, w + j = 512 → (∀ u r, u < 512 → r < 32 → (wb (I1 (a + 25) u) r = true ↔ if u.testBit s = true ∨ u + 2 ^ s < w then Cl S (5 + s + 1) (32 * u + r) else Cl S (5 + s) (32 * u + r))) → Sm (fun b _ => b = a + 25) I I1 → s_X0_collectWithin_140 γ l a (nI (2 ^ s)) (nI w) (sh, I1, J, R) Q := by
  have hp : 2 ^ s < 2 ^ 9 := Nat.pow_lt_pow_right (by decide) hs
  intro j
  induction j with
  | zero =>
    intro w I1 hw h hS
    have ew : w = 512 := by omega
    subst ew
    refine w_X0_collectWithin_140 hA ⟨fun _ => K I1 (fun u r hu hr => ?_) hS, fun z => absurd (nI_le (Nat.le_refl _) (by decide)) z⟩
    have := h u r hu hr
    cases hz : u.testBit s with
    | true => rw [if_pos (Or.inl hz)] at this; exact this
    | false => rw [if_pos (Or.inr (w9_f s hs u hu hz).2)] at this; exact this
  | succ j ih =>
    intro w I1 hw h hS
    have hw' : w < 512 := by omega
    refine w_X0_collectWithin_140 hA ⟨fun z => absurd z (nI_ge (by omega) (by decide)), fun _ => ?_⟩
    have ez : (nI w &&& nI (2 ^ s) = 0) ↔ w.testBit s = false := by
      rw [bt_and (by omega) (by omega), show (0 : Int32) = nI 0 from rfl, nI_eq (and_31 (by omega)) (by decide)]
      constructor
      · intro hz
        have : (w &&& 2 ^ s).testBit s = (0 : Nat).testBit s := by rw [hz]
        rw [Nat.testBit_and, Nat.testBit_two_pow, Nat.zero_testBit] at this
        simpa using this
      · intro hz
        apply Nat.eq_of_testBit_eq
        intro i
        rw [Nat.testBit_and, Nat.testBit_two_pow, Nat.zero_testBit]
        by_cases e : s = i
        · subst e; rw [hz]; rfl
        · simp [e]
    rw [ez, nI_1]
    refine ⟨fun z => ih (w + 1) I1 (by omega) (fun u r hu hr => ?_) hS, fun z => ?_⟩
    · rw [h u r hu hr]
      cases hz : u.testBit s with
      | true => simp
      | false =>
        have hne : u + 2 ^ s ≠ w := fun y => by
          have := (w9_f s hs u hu hz).1
          rw [y, z] at this
          exact absurd this (by decide)
        by_cases hlt : u + 2 ^ s < w
        · rw [if_pos (Or.inr hlt), if_pos (Or.inr (by omega))]
        · rw [if_neg (fun y => by rcases y with y | y; exact absurd y (by decide); exact hlt y), if_neg (fun y => by rcases y with y | y; exact absurd y (by decide); omega)]
    · have z : w.testBit s = true := by revert z; cases w.testBit s <;> simp
      obtain ⟨t1, t2, t3⟩ := w9_t s hs w hw' z
      have hu512 : w - 2 ^ s < 512 := Nat.lt_of_le_of_lt (Nat.sub_le _ _) hw'
      rw [pk_sub t1, nI_clamp (by omega), nI_clamp (by omega)]
      refine ⟨vp_in_nI hu512 (by decide), vp_in_nI hw' (by decide), vp_in_nI hu512 (by decide), ih (w + 1) _ (by omega) (fun u r hu hr => ?_) (hS.up rfl)⟩
      have hpos : 0 < 2 ^ s := Nat.two_pow_pos s
      by_cases hz : u = w - 2 ^ s
      · subst hz
        rw [up_at, if_pos ⟨rfl, rfl⟩, wb_or, Bool.or_eq_true, h _ r hu512 hr, h w r hw' hr, if_pos (Or.inl z), if_neg (fun y => by rcases y with y | y; rw [t3] at y; exact absurd y (by decide); omega), if_pos (Or.inr (by omega))]
        have e1 : (32 * (w - 2 ^ s) + r).testBit (5 + s) = false := by rw [w32_th hr]; exact t3
        have e2 : (32 * (w - 2 ^ s) + r) ||| 2 ^ (5 + s) = 32 * w + r := by rw [w32_hi hr, t2]
        have e3 : (32 * w + r).testBit (5 + s) = true := by rw [w32_th hr]; exact z
        rw [Cl_f e1, e2, Cl_t e3]
      · rw [up_at, if_neg (fun y => hz y.2), h u r hu hr]
        cases hb : u.testBit s with
        | true => simp
        | false =>
          have hne : u + 2 ^ s ≠ w := by omega
          by_cases hlt : u + 2 ^ s < w
          · rw [if_pos (Or.inr hlt), if_pos (Or.inr (by omega))]
          · rw [if_neg (fun y => by rcases y with y | y; exact absurd y (by decide); exact hlt y), if_neg (fun y => by rcases y with y | y; exact absurd y (by decide); omega)]
theorem cw_129 (hA : At0 sh R a) {S : Nat → Prop} (K : ∀ I2, WS I2 (a + 25) (Cl S 14) → Sm (fun b _ => b = a + 25) I I2 → Q (sh, I2, J, R) none) :
    ∀ j s I1, s + j = 9 → WS I1 (a + 25) (Cl S (5 + s)) → Sm (fun b _ => b = a + 25) I I1 → s_X0_collectWithin_129 γ l a (nI (2 ^ s)) (sh, I1, J, R) Q := by
  intro j
  induction j with
  | zero =>
    intro s I1 hs h hS
    have es : s = 9 := by omega
    subst es
    exact w_X0_collectWithin_129 hA ⟨fun _ => K I1 h hS, fun z => absurd (by decide) z⟩
  | succ j ih =>
    intro s I1 hs h hS
    have hp : 2 ^ s < 2 ^ 9 := Nat.pow_lt_pow_right (by decide) (by omega)
    refine w_X0_collectWithin_129 hA ⟨fun z => absurd z (nI_ge (by omega) (by decide)), fun _ => ?_⟩
    refine cw_words (I := I) hA (show s < 9 by omega) (S := S) (fun I2 h2 hS2 => ?_) 512 0 I1 (by omega) (fun u r hu hr => ?_) hS
    · have e : nI (2 ^ s) * 2 = nI (2 ^ (s + 1)) := by rw [show (2 : Int32) = nI 2 from rfl, pk_mul, Nat.pow_succ]
      rw [e]
      exact ih (s + 1) I2 (by omega) h2 hS2
    · rw [h u r hu hr]
      cases hb : u.testBit s with
      | true => rw [if_pos (Or.inl rfl), Cl_t (by rw [w32_th hr]; exact hb)]
      | false => rw [if_neg (fun y => by rcases y with y | y; exact absurd y (by decide); exact absurd y (Nat.not_lt_zero _))]
theorem cw_81 {b : Nat} (hA : At0 sh R a) (hb : b < 5) {S : Nat → Prop} (K : ∀ I2, WS I2 (a + 25) (Cl S (b + 1)) → Sm (fun b _ => b = a + 25) I I2 → s_X0_collectWithin_71 γ l a (nI (b + 1)) (sh, I2, J, R) Q) :
    ∀ j w I1, w + j = 512 → (∀ u r, u < 512 → r < 32 → (wb (I1 (a + 25) u) r = true ↔ if u < w then Cl S (b + 1) (32 * u + r) else Cl S b (32 * u + r))) → Sm (fun b _ => b = a + 25) I I1 → s_X0_collectWithin_81 γ l a (nI b) (nI w) (sh, I1, J, R) Q := by
  intro j
  induction j with
  | zero =>
    intro w I1 hw h hS
    have ew : w = 512 := by omega
    subst ew
    refine w_X0_collectWithin_81 hA ⟨fun _ => ?_, fun z => absurd (nI_le (Nat.le_refl _) (by decide)) z⟩
    rw [nI_1]
    refine K I1 (fun u r hu hr => ?_) hS
    have := h u r hu hr
    rw [if_pos hu] at this
    exact this
  | succ j ih =>
    intro w I1 hw h hS
    have hw' : w < 512 := by omega
    refine w_X0_collectWithin_81 hA ⟨fun z => absurd z (nI_ge (by omega) (by decide)), fun _ => ?_⟩
    rw [nI_clamp (by omega), nI_clamp (by omega), nI_1]
    refine ⟨vp_in_nI hw' (by decide), vp_in_nI hw' (by decide), vp_in_nI hb (by decide), vp_in_nI hw' (by decide), ih (w + 1) _ (by omega) (fun u r hu hr => ?_) (hS.up rfl)⟩
    by_cases hz : u = w
    · subst hz
      have h0 := h u r hu hr
      rw [if_neg (by omega)] at h0
      rw [up_at, if_pos ⟨rfl, rfl⟩, if_pos (by omega), wb_or, wb_us (sh5 b hb), wb_and, Bool.or_eq_true, Bool.and_eq_true, h0]
      cases hbt : r.testBit b with
      | true =>
        have e1 : (32 * u + r).testBit b = true := by rw [w32_tl hr hb]; exact hbt
        rw [Cl_t e1]
        constructor
        · rintro (y | ⟨y1, y2⟩)
          · exact y
          · rcases r5_t b hb r hr hbt with q | q
            · rw [wb_hi _ q] at y1; exact absurd y1 (by decide)
            · by_cases q2 : r + 2 ^ b < 32
              · rw [wWITH b hb _ q2, q] at y2; exact absurd y2 (by decide)
              · rw [wb_hi _ (by omega)] at y1; exact absurd y1 (by decide)
        · exact Or.inl
      | false =>
        have e1 : (32 * u + r).testBit b = false := by rw [w32_tl hr hb]; exact hbt
        obtain ⟨q1, q2, q3⟩ := r5_f b hb r hr hbt
        have h1 := h u (r + 2 ^ b) hu q2
        rw [if_neg (by omega)] at h1
        rw [Cl_f e1, w32_lo hr hb, ← q1, ← h1, wWITH b hb _ q2, q3]
        simp
    · rw [up_at, if_neg (fun y => hz y.2), h u r hu hr]
      by_cases hlt : u < w
      · rw [if_pos hlt, if_pos (by omega)]
      · rw [if_neg hlt, if_neg (by omega)]
theorem cw_71 (hA : At0 sh R a) {S : Nat → Prop} (K : ∀ I2, WS I2 (a + 25) (Cl S 14) → Sm (fun b _ => b = a + 25) I I2 → Q (sh, I2, J, R) none) :
    ∀ j b I1, b + j = 5 → WS I1 (a + 25) (Cl S b) → Sm (fun b _ => b = a + 25) I I1 → s_X0_collectWithin_71 γ l a (nI b) (sh, I1, J, R) Q := by
  intro j
  induction j with
  | zero =>
    intro b I1 hb h hS
    have eb : b = 5 := by omega
    subst eb
    exact w_X0_collectWithin_71 hA ⟨fun _ => cw_129 hA K 9 0 I1 (by omega) h hS, fun z => absurd (by decide) z⟩
  | succ j ih =>
    intro b I1 hb h hS
    refine w_X0_collectWithin_71 hA ⟨fun z => absurd z (nI_ge (b := 5) (by omega) (by decide)), fun _ => ?_⟩
    refine cw_81 (I := I) hA (show b < 5 by omega) (S := S) (fun I2 h2 hS2 => ih (b + 1) I2 (by omega) h2 hS2) 512 0 I1 (by omega) (fun u r hu hr => ?_) hS
    rw [if_neg (by omega)]
    exact h u r hu hr
end TWI
