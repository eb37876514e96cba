/-! ===== the model: flat, forgets; its constructor's end ===== -/
def mFl (I : Nat → Nat → Int32) (a p : Nat) : Nat → Nat → Nat → Int32
  | 0 => I
  | i + 1 => up (up (up (mFl I a p i) (a + 26) (8 * p + i) (nI i)) (a + 27) (8 * p + i) 0) (a + 28) (8 * p + i) 1
def mFlat (I : Nat → Nat → Int32) (a p n : Nat) : Nat → Nat → Int32 := mFl (up I (a + 25) p (nI n)) a p n
def mFg1 (I : Nat → Nat → Int32) (a : Nat) : Nat → Nat → Nat → Int32
  | 0 => I
  | i + 1 => up (up (mFg1 I a i) (a + 38) i (-1)) (a + 39) i (-1)
def mFg2 (I : Nat → Nat → Int32) (a : Nat) : Nat → Nat → Nat → Int32
  | 0 => I
  | i + 1 => up (mFg2 I a i) (a + 40) i (-1)
def mForgets (I : Nat → Nat → Int32) (a : Nat) : Nat → Nat → Int32 := up (mFg2 (mFg1 I a 8) a 16) a 59 0
section M9
variable {γ : rG} {l : Launch} {sh : Nat × (Nat → Nat) × (Nat → Nat)} {I : Nat → Nat → Int32} {J : Nat → Nat → Int64} {R : Nat → Nat → Option Nat} {a : Nat}
theorem mFl_off {p b j : Nat} (h : b ≠ a + 26 ∧ b ≠ a + 27 ∧ b ≠ a + 28) : ∀ i, mFl I a p i b j = I b j := by
  intro i
  induction i with
  | zero => rfl
  | succ i ih => simp [mFl, up_at, h.1, h.2.1, h.2.2, ih]
theorem mflat_loop {p n : Nat} (hA : At9 sh R a) (hp : p < 22) (hn : n ≤ 8) (hI : I a 39 = nI n) : ∀ j i, i + j = n → rV γ l m_X9_flat 0 0 12 [some (.ref a), some (.int (nI p)), some (.int (nI i))] [] (sh, mFl I a p i, J, R) (sh, mFl I a p n, J, R) none := by
  intro j
  induction j with
  | zero =>
    intro i hi
    have e : i = n := by omega
    subst e
    have hg : mFl I a p i a 39 ≤ nI i := by rw [mFl_off (by omega), hI]; exact nI_le (Nat.le_refl _) (by omega)
    exact b_X9_flat_12 hA (fun _ => ⟨rfl, rfl⟩) (fun q => absurd hg q) (fun q => absurd hg q) (fun q => absurd hg q) (fun q => absurd hg q)
  | succ j ih =>
    intro i hi
    have hg : ¬ mFl I a p i a 39 ≤ nI i := by rw [mFl_off (by omega), hI]; exact nI_ge (by omega) (by omega)
    have e3 : ((8 : Int32) * nI p) + nI i = nI (8 * p + i) := by rw [show (8 : Int32) = nI 8 by decide, pk_mul, nI_add]
    have hv : vp_in (((8 : Int32) * nI p) + nI i) 176 := by rw [e3]; exact vp_in_nI (by omega) (by decide)
    refine b_X9_flat_12 hA (fun q => absurd q hg) (fun _ => hv) (fun _ => hv) (fun _ => hv) (fun _ => ?_)
    rw [e3, nI_clamp (by omega), nI_1, show vp_nar .boolean (1 : Int32) = 1 from nar_nz true]
    exact ih (i + 1) (by omega)
theorem ct_mflat {p n : Nat} (hA : At9 sh R a) (hp : p < 22) (hn : n ≤ 8) (hI : I a 39 = nI n) : rMet γ l m_X9_flat [.ref a, .int (nI p)] (sh, I, J, R) (sh, mFlat I a p n, J, R) none := by
  refine e_X9_flat (b_X9_flat_0 hA (vp_in_nI hp (by decide)) ?_)
  rw [hI, nI_clamp (by omega)]
  exact mflat_loop hA hp hn (by simp [up_at, hI]) n 0 (by omega)
theorem mfg2_loop (hA : At9 sh R a) : ∀ j i, i + j = 16 → rV γ l m_X9_forgets 0 0 30 [some (.ref a), some (.int (nI i))] [] (sh, mFg2 I a i, J, R) (sh, up (mFg2 I a 16) a 59 0, J, R) none := by
  intro j
  induction j with
  | zero =>
    intro i hi
    have e : i = 16 := by omega
    subst e
    exact b_X9_forgets_30 hA (fun _ => ⟨rfl, rfl⟩) (fun q => absurd (by decide) q) (fun q => absurd (by decide) q)
  | succ j ih =>
    intro i hi
    have hg : ¬ (16 : Int32) ≤ nI i := by rw [show (16 : Int32) = nI 16 by decide]; exact nI_ge (by omega) (by decide)
    refine b_X9_forgets_30 hA (fun q => absurd q hg) (fun _ => vp_in_nI (by omega) (by decide)) (fun _ => ?_)
    rw [nI_clamp (by omega), nI_1]
    exact ih (i + 1) (by omega)
theorem mfg1_loop (hA : At9 sh R a) : ∀ j i, i + j = 8 → rV γ l m_X9_forgets 0 0 2 [some (.ref a), some (.int (nI i))] [] (sh, mFg1 I a i, J, R) (sh, mForgets I a, J, R) none := by
  intro j
  induction j with
  | zero =>
    intro i hi
    have e : i = 8 := by omega
    subst e
    exact b_X9_forgets_2 hA (fun _ => mfg2_loop hA 16 0 (by omega)) (fun q => absurd (by decide) q) (fun q => absurd (by decide) q) (fun q => absurd (by decide) q)
  | succ j ih =>
    intro i hi
    have hg : ¬ (8 : Int32) ≤ nI i := by rw [show (8 : Int32) = nI 8 by decide]; exact nI_ge (by omega) (by decide)
    refine b_X9_forgets_2 hA (fun q => absurd q hg) (fun _ => vp_in_nI (by omega) (by decide)) (fun _ => vp_in_nI (by omega) (by decide)) (fun _ => ?_)
    rw [nI_clamp (by omega), nI_1]
    exact ih (i + 1) (by omega)
theorem ct_mforgets (hA : At9 sh R a) : rMet γ l m_X9_forgets [.ref a] (sh, I, J, R) (sh, mForgets I a, J, R) none :=
  e_X9_forgets (b_X9_forgets_0 hA (mfg1_loop hA 8 0 (by omega)))
end M9
/-- the state behind both constructors -/
def I9c : Nat → Nat → Int32 := mForgets (mFlat (up (up I8c 169 17 (-1)) 169 39 4) 169 0 4) 169
theorem pkLay_row {I : Nat → Nat → Int32} {a p c q b : Nat} {u : Bool} (h : b < a ∨ a + 6 ≤ b) : pkLay I a p c q u b = I b := by
  unfold pkLay
  rw [up_ne (by omega), up_ne (by omega), up_ne (by omega), up_ne (by omega), up_ne (by omega)]
theorem fillN_row {I : Nat → Nat → Int32} {a n b : Nat} {v : Int32} (h : b ≠ a) : fillN I a v n b = I b := by
  funext j
  simp [fillN, h]
theorem pkBegin_row {I : Nat → Nat → Int32} {a b : Nat} {p c : Int32} (h : b < a ∨ a + 6 ≤ b) : pkBegin I a p c b = I b := by
  unfold pkBegin
  rw [fillN_row (by omega), up_ne (by omega), up_ne (by omega)]
theorem pkFlat_row {I : Nat → Nat → Int32} {a b : Nat} (h : b < a ∨ a + 6 ≤ b) : ∀ n, pkFlat I a n b = I b := by
  intro n
  induction n with
  | zero => rfl
  | succ n ih => simp only [pkFlat]; rw [pkLay_row h]; exact ih
theorem I8c_row {b : Nat} (h : 169 ≤ b) : I8c b = (fun _ => 0) := by
  unfold I8c fdForget shFlat
  rw [up_ne (by omega), up_ne (by omega), up_ne (by omega), up_ne (by omega), up_ne (by omega), up_ne (by omega), up_ne (by omega), up_ne (by omega), pkFlat_row (by omega), pkBegin_row (by omega), fillN_row (by omega), fillN_row (by omega), up_ne (by omega), up_ne (by omega), up_ne (by omega), up_ne (by omega), up_ne (by omega)]
  rfl
set_option maxRecDepth 20000 in
theorem FR8 : Fr 169 I00 J00 R8c := (Fr.upR (ciF_X3 (a := 0 + 161) (Fr.le (Fr.upR (ciF_X3 (a := 0 + 153) (Fr.le (Fr.upR (ciF_X7 (a := 0 + 142) (Fr.le (Fr.upR (ciF_X0 (a := 0 + 116) (Fr.le (Fr.upR (ciF_X5 (a := 0 + 5) (Fr.le (Fr.upR (ciF_X4 (a := 0 + 3) (Fr.le (Fr.upR (ciF_X6 (a := 0 + 1) (Fr.le (fun b _ => ⟨rfl, rfl, rfl⟩ : Fr (0 + 1) I00 J00 R00) (Nat.le_succ _))) (by omega)) (Nat.le_succ _))) (by omega)) (Nat.le_succ _))) (by omega)) (Nat.le_succ _))) (by omega)) (Nat.le_succ _))) (by omega)) (Nat.le_succ _))) (by omega)) (Nat.le_succ _))) (by omega))
theorem R8c_row {b : Nat} (h : 169 ≤ b) : R8c b = (fun _ => none) := by
  have hf : Fr 169 I00 J00 R8c := FR8
  exact (hf b h).2.2
set_option maxRecDepth 20000 in
theorem ci_X9 {γ : rG} {l : Launch} : rMet γ l m_X9_init [.ref 169] (shL (Ws8 ++ [(9, 0)]), I8c, J00, R8c) (SH, I9c, J9c, R9c) none := by
  refine rMet_of (L := [some (.ref 169)]) rfl rfl (rSub_at ⟨rfl, trivial⟩) (Nat.le_of_ble_eq_true rfl) ?_
  have e : ((((((((((((((((((((((((((((((((((((((((((((((((((((((((Ws8 ++ [(9, 0)]) ++ [(10, 2000)]) ++ [(10, 2000)]) ++ [(11, 403)]) ++ [(11, 403)]) ++ [(11, 403)]) ++ [(12, 403)]) ++ [(12, 14)]) ++ [(11, 2)]) ++ [(11, 32)]) ++ [(11, 32)]) ++ [(11, 32)]) ++ [(11, 32)]) ++ [(11, 32)]) ++ [(11, 2)]) ++ [(11, 400)]) ++ [(11, 400)]) ++ [(11, 400)]) ++ [(11, 400)]) ++ [(13, 400)]) ++ [(11, 1000)]) ++ [(11, 1000)]) ++ [(11, 48)]) ++ [(11, 5)]) ++ [(11, 500)]) ++ [(11, 22)]) ++ [(11, 176)]) ++ [(11, 176)]) ++ [(13, 176)]) ++ [(11, 8)]) ++ [(11, 8)]) ++ [(11, 8)]) ++ [(13, 16)]) ++ [(11, 16)]) ++ [(11, 16)]) ++ [(11, 16)]) ++ [(11, 16)]) ++ [(11, 16)]) ++ [(11, 8)]) ++ [(11, 8)]) ++ [(11, 16)]) ++ [(11, 5)]) ++ [(13, 16384)]) ++ [(11, 4)]) ++ [(11, 4)]) ++ [(11, 6)]) ++ [(11, 36)]) ++ [(11, 40)]) ++ [(11, 40)]) ++ [(11, 108)]) ++ [(11, 108)]) ++ [(12, 108)]) ++ [(11, 36)]) ++ [(11, 36)]) ++ [(11, 36)]) ++ [(11, 36)]) = lawWs := by decide +kernel
  refine ci9_head (a := 169) (by decide +kernel) (by decide +kernel) (fun b hb => ⟨I8c_row (by omega), rfl, R8c_row (by omega)⟩) ?_
  rw [e]
  show rV γ l m_X9_init 55 28032 461 [some (.ref 169)] [] (SH, up I8c 169 17 (-1), J00, R9c) _ none
  refine ci9_keys ?_
  refine r_aload_n dX9_init_753 rfl (r_iconst (v := (4 : Int32)) dX9_init_754 (by decide) (r_putI dX9_init_755 f_RX9_189 rfl rfl (At9_k at9_9) ?_))
  refine r_aload_n dX9_init_758 rfl (r_iconst (v := (0 : Int32)) dX9_init_759 (by decide) (r_callV (As := [.int (nI 0)]) (rest := []) (M' := m_X9_flat) (ci := 9) dX9_init_760 yy_X9_flat yi_X9_flat lm_RX9_192 ys_X9_flat (by decide) rfl (At9_k at9_9) rfl (Nat.le_of_ble_eq_true rfl) ⟨(Nat.le_of_ble_eq_true rfl), (Nat.le_of_ble_eq_true rfl)⟩ ⟨(Nat.le_of_ble_eq_true rfl), (Nat.le_of_ble_eq_true rfl)⟩ (ct_mflat (n := 4) at9_9 (by decide) (by decide) (by simp [up_at]; decide)) ?_))
  exact r_aload_n dX9_init_763 rfl (r_callV (As := []) (rest := []) (M' := m_X9_forgets) (ci := 9) dX9_init_764 yy_X9_forgets yi_X9_forgets lm_RX9_196 ys_X9_forgets (by decide) rfl (At9_k at9_9) rfl (Nat.le_of_ble_eq_true rfl) ⟨(Nat.le_of_ble_eq_true rfl), (Nat.le_of_ble_eq_true rfl)⟩ ⟨(Nat.le_of_ble_eq_true rfl), (Nat.le_of_ble_eq_true rfl)⟩ (ct_mforgets at9_9) (r_return dX9_init_767 rfl rfl rfl))
theorem init_of {γ : rG} {l : Launch} {S : rS} (hS : S I9c J9c R9c) : Init γ l S :=
  ⟨I8c, J00, R8c, I9c, J9c, R9c, ci_X8, fun b hb => ⟨I8c_row hb, rfl, R8c_row hb⟩, ci_X9, hS⟩
