/-! ===== the model's slit, lock, seal, soil ===== -/
section MPL
variable {γ : rG} {l : Launch} {sh : Nat × (Nat → Nat) × (Nat → Nat)} {I : Nat → Nat → Int32} {J : Nat → Nat → Int64} {R : Nat → Nat → Option Nat} {a m n : Nat} {T : Sht}
theorem M_copy (hA : At9 sh R m) (hV : V_sheet n T) (hM : M_sheet I m T) (h16 : yA T < 16) : ∃ I2, rMet γ l m_X9_copies [.ref m, .int (nI (yA T)), .int (nI (yA T + 1))] (sh, I, J, R) (sh, I2, J, R) none ∧ M_sheet I2 m T ∧ PkM I2 m (yA T + 1) (nowP T) ∧ Sm (Ft m (yA T + 1)) I I2 := by
  obtain ⟨hP, hN⟩ := V_now hV
  have h8 := hP.2.1
  have hS : Sm (Ft m (yA T + 1)) I (mCp I m (nowP T) (yA T + 1) (pN (nowP T))) := by
    intro b j q
    unfold Ft at q
    unfold mCp
    rw [if_neg (by omega), if_neg (by omega), if_neg (by omega), if_neg (by omega)]
  exact ⟨_, ct_copies hA (by omega) (by omega) (by omega) h8 (M_now hM), hM.loc hV (fun b j _ q2 => hS b j q2), mCp_M (M_now hM).1, hS⟩
theorem M_pile {kd c k s : Nat} (hA : At9 sh R m) (hV : V_sheet n T) (hM : M_sheet I m T) (h16 : yA T < 16) (hc : c < pW (nowP T)) :
    ∃ I2 I6, rMet γ l m_X9_copies [.ref m, .int (nI (yA T)), .int (nI (yA T + 1))] (sh, I, J, R) (sh, I2, J, R) none ∧ I2 m 48 = nI (yA T) ∧ rMet γ l m_X9_layersOf [.ref m, .int (nI (yA T)), .int (nI c)] (sh, I2, J, R) (sh, I2, J, R) (some (.int (nI (hp T c)))) ∧ rMet γ l m_X9_acted [.ref m, .int (nI kd), .int (nI k), .int (nI c), .int (nI (hp T c - k)), .int (nI s)] (sh, I2, J, R) (sh, I6, J, R) (some (.int (nI (yA T)))) ∧ M_sheet I6 m (addAct T (nowP T) (kd, k, c, hp T c - k, s)) ∧ Sm (Fm m) I I6 := by
  obtain ⟨hP, hN⟩ := V_now hV
  have h8 := hP.2.1
  obtain ⟨I2, c1, c2, c3, c4⟩ := M_copy (γ := γ) (l := l) (J := J) hA hV hM h16
  refine ⟨I2, _, c1, c2.1.2, ?_, ct_acted hA h16 c2.1.2, M_keep c2 c3 h8 (fun i hi => by have := (hV.2.2.2.2.2.1 i hi).2; have := hV.2.1; omega), fun b j q => ?_⟩
  · have := ct_layersOf (γ := γ) (l := l) (J := J) (y := nI c) hA (show yA T < 22 by omega) h8 (M_now c2)
    rw [own_eq hP hc] at this
    exact this
  · unfold Fm at q
    rw [kpI_off (by omega) (by omega), c4 b j (by unfold Ft; omega)]
theorem ct_isColumn {x : Int32} (hA : At9 sh R m) (hV : V_sheet n T) (hM : M_sheet I m T) : rMet γ l m_X9_isColumn [.ref m, .int x] (sh, I, J, R) (sh, I, J, R) (some (.int (bz (¬ x < 0 ∧ x < nI (pW (nowP T)))))) := by
  have h16 := hV.2.2.1
  refine e_X9_isColumn (rW_pure (w_X9_isColumn_0 hA ?_))
  rw [hM.1.2, nI_clamp (by omega), (M_now hM).2.1]
  refine ⟨fun z => ⟨rfl, ?_⟩, fun z => ⟨vp_in_nI (by omega) (by decide), fun y => ⟨rfl, ?_⟩, fun y => ⟨rfl, ?_⟩⟩⟩
  · rw [bz_f (fun w => w.1 z)]
  · rw [bz_f (fun w => Int32.not_lt.mpr y w.2)]
  · rw [bz_t ⟨z, Int32.not_le.mp y⟩]
theorem M_rows {T2 : Sht} {I2 : Nat → Nat → Int32} (hM : M_sheet I m T) (hV : V_sheet n T) (h1 : yN T2 = yN T) (h2 : yA T2 = yA T) (h3 : yP T2 = yP T) (h4 : yK T2 = yK T) (hq : ∀ b j, ¬ (m + 29 ≤ b ∧ b < m + 33) → I2 b j = I b j)
    (h5 : ∀ i, i < 8 → I2 (m + 29) i = nI (yC T2 / 2 ^ (2 * i) % 4) ∧ I2 (m + 30) i = nI (yS T2 i) ∧ I2 (m + 31) i = yW T2 i) (h6 : ∀ f, f < 16 → I2 (m + 32) f = nz ((yD T2).testBit f)) : M_sheet I2 m T2 := by
  obtain ⟨⟨g1, g2⟩, _, _, g6, g7⟩ := hM
  refine ⟨⟨?_, ?_⟩, h5, h6, fun i hi => ?_, fun i hi => ?_⟩
  · rw [hq _ _ (by omega), h1]; exact g1
  · rw [hq _ _ (by omega), h2]; exact g2
  · rw [h2] at hi
    rw [h3]
    have hn := (hV.2.2.2.2.2.1 i hi).2
    have := hV.2.1
    exact (g6 i hi).loc (by omega) (hq _ _ (by omega)) (hq _ _ (by omega)) (fun b j q1 _ _ => hq _ _ (by omega))
  · rw [h2] at hi
    rw [h4]
    obtain ⟨r1, r2, r3, r4, r5⟩ := g7 i hi
    exact ⟨(hq _ _ (by omega)).trans r1, (hq _ _ (by omega)).trans r2, (hq _ _ (by omega)).trans r3, (hq _ _ (by omega)).trans r4, (hq _ _ (by omega)).trans r5⟩
theorem M_setS {s : Nat} (hV : V_sheet n T) (hM : M_sheet I m T) (hs : s < 2 ^ yN T) : M_sheet (rsI I (m + 30) (nI s) (yN T)) m (setS T s) := by
  refine M_rows hM hV rfl rfl rfl rfl (fun b j q => rsI_off (by omega)) (fun i hi => ⟨(rsI_off (by omega)).trans (hM.2.1 i hi).1, ?_, (rsI_off (by omega)).trans (hM.2.1 i hi).2.2⟩) (fun f hf => (rsI_off (by omega)).trans (hM.2.2.1 f hf))
  rw [rsI_at hs hV.2.1 hi, (hM.2.1 i hi).2.1, nz_nI, nI_add]; rfl
theorem M_setW {s : Nat} (hV : V_sheet n T) (hM : M_sheet I m T) (hs : s < 2 ^ yN T) : M_sheet (rsI I (m + 31) (nI s) (yN T)) m (setW T s) := by
  refine M_rows hM hV rfl rfl rfl rfl (fun b j q => rsI_off (by omega)) (fun i hi => ⟨(rsI_off (by omega)).trans (hM.2.1 i hi).1, (rsI_off (by omega)).trans (hM.2.1 i hi).2.1, ?_⟩) (fun f hf => (rsI_off (by omega)).trans (hM.2.2.1 f hf))
  rw [rsI_at hs hV.2.1 hi, (hM.2.1 i hi).2.2]; rfl
theorem lay_nI {x : Int32} {c : Nat} (hA : At9 sh R m) (hV : V_sheet n T) (hM : M_sheet I m T) (hc : c < pW (nowP T)) : rMet γ l m_X9_layersOf [.ref m, .int (nI (yA T)), .int (nI c)] (sh, I, J, R) (sh, I, J, R) (some (.int (nI (hp T c)))) := by
  have hP := (V_now hV).1
  have h16 := hV.2.2.1
  have := ct_layersOf (γ := γ) (l := l) (J := J) (y := nI c) hA (show yA T < 22 by omega) hP.2.1 (M_now hM)
  rw [own_eq hP hc] at this
  exact this
/-- why a slit or lock is refused, by the model's tests -/
theorem col_split {x y : Int32} (hV : V_sheet n T) (h : ¬ y ≤ hgt (nowP T) x) : ¬ (¬ x < 0 ∧ x < nI (pW (nowP T))) ∨ ∃ c : Nat, x = nI c ∧ c < pW (nowP T) ∧ ¬ y ≤ nI (hp T c) := by
  by_cases g : ¬ x < 0 ∧ x < nI (pW (nowP T))
  · right
    have hw := (V_now hV).1.2.2.2.1
    obtain ⟨c, hc, rfl⟩ := nI_of g.1
    have hcw := (nI_ltI hc (by omega)).mp g.2
    rw [hgt_at (V_now hV).1 hcw] at h
    exact ⟨c, rfl, hcw, h⟩
  · exact Or.inl g
theorem cm_slit_no {x y : Int32} (hA : At9 sh R m) (hV : V_sheet n T) (hM : M_sheet I m T) (h : yA T = 16 ∨ y < 1 ∨ ¬ y ≤ hgt (nowP T) x) : rMet γ l m_X9_slit [.ref m, .int x, .int y] (sh, I, J, R) (sh, I, J, R) (some (.int (-1))) := by
  have h16 := hV.2.2.1
  refine e_X9_slit (rW_pure (w_X9_slit_0 hA ?_))
  rw [hM.1.2]
  refine ⟨fun _ => ⟨rfl, rfl⟩, fun z1 => ⟨_, ct_isColumn hA hV hM, fun _ => ⟨rfl, rfl⟩, fun z2 => ⟨fun _ => ⟨rfl, rfl⟩, fun z3 => ?_⟩⟩⟩
  rw [bz_0, Classical.not_not] at z2
  rcases h with h | h | h
  · rw [h] at z1; exact absurd (by decide) z1
  · exact absurd h z3
  · rcases col_split hV h with g | ⟨c, rfl, hc, g⟩
    · exact absurd z2 g
    · exact ⟨_, lay_nI (x := 0) hA hV hM hc, fun z => absurd z g, fun _ => ⟨rfl, rfl⟩⟩
theorem mslit_loop {c k : Nat} {x : Int32} {Q : rHeap → Option Value → Prop} (hA : At9 sh R m) (hN : I m 39 = nI (yN T)) (hN8 : yN T ≤ 8) (K : s_X9_slit_51 γ l m (nI c) (nI k) x (nI (yN T)) (sh, rsI I (m + 30) x (yN T), J, R) Q) : ∀ j i, i + j = yN T → s_X9_slit_51 γ l m (nI c) (nI k) x (nI i) (sh, rsI I (m + 30) x i, J, R) Q := by
  intro j
  induction j with
  | zero =>
    intro i hi
    have e : i = yN T := by omega
    subst e
    exact K
  | succ j ih =>
    intro i hi
    have hv : vp_in (nI i) 8 := vp_in_nI (by omega) (by decide)
    refine w_X9_slit_51 hA ⟨fun z => absurd z ?_, fun _ => ⟨hv, hv, ?_⟩⟩
    · rw [rsI_off (by omega), hN]; exact nI_ge (by omega) (by omega)
    · rw [nI_clamp (by omega), rsI_s, nI_1]
      exact ih (i + 1) (by omega)
theorem cm_slit_ok {c k : Nat} (hA : At9 sh R m) (hV : V_sheet n T) (hM : M_sheet I m T) (h16 : yA T < 16) (hc : c < pW (nowP T)) (hk1 : 1 ≤ k) (hk : k ≤ hp T c) :
    ∃ I', rMet γ l m_X9_slit [.ref m, .int (nI c), .int (nI k)] (sh, I, J, R) (sh, I', J, R) (some (.int (nI (yA T)))) ∧ M_sheet I' m (slitT T c k) ∧ Sm (Fm m) I I' := by
  obtain ⟨hP, hN⟩ := V_now hV
  have h8 := hp_le hV c
  have hw := hP.2.2.2.1
  have hN8 := hV.2.1
  have hs : hiM (nowP T) c k < 2 ^ yN T := by rw [← hN]; exact mkN_lt _ _
  have hM2 := M_setS hV hM hs
  obtain ⟨I2, I6, c1, c2, c3, c4, c5, c6⟩ := M_pile (γ := γ) (l := l) (J := J) (kd := 2) (c := c) (k := k) (s := 0) (T := setS T (hiM (nowP T) c k)) hA (V_setS hV) hM2 h16 hc
  rw [nI_0] at c4
  have key : s_X9_slit_0 γ l m (nI c) (nI k) (sh, I, J, R) (fun hf v => ∃ I', hf = (sh, I', J, R) ∧ v = some (.int (nI (yA T))) ∧ (M_sheet I' m (slitT T c k) ∧ Sm (Fm m) I I')) := by
    refine w_X9_slit_0 hA ?_
    rw [hM.1.2]
    refine ⟨fun z => absurd z (fun w => by rw [show (16 : Int32) = nI 16 by decide, nI_eq (by omega) (by decide)] at w; omega), fun _ => ⟨_, ct_isColumn hA hV hM, fun z => absurd ⟨nI_pos (by omega), nI_lt hc (by omega)⟩ (bz_0.mp z), fun _ => ⟨fun z => absurd z (nI_nlt hk1 (by omega)), fun _ => ⟨_, lay_nI (x := 0) hA hV hM hc, fun _ => ⟨_, ct_mhighest hA (by omega) hP (M_now hM) hc hk, ?_⟩, fun z => absurd (nI_le hk (by omega)) z⟩⟩⟩⟩
    have lp := mslit_loop (γ := γ) (l := l) (J := J) (c := c) (k := k) (T := T) (x := nI (hiM (nowP T) c k)) (Q := fun hf v => ∃ I', hf = (sh, I', J, R) ∧ v = some (.int (nI (yA T))) ∧ (M_sheet I' m (slitT T c k) ∧ Sm (Fm m) I I')) hA hM.1.1 hN8 ?_ (yN T) 0 (by omega)
    · rw [rsI_0] at lp; exact lp
    · refine w_X9_slit_51 hA ⟨fun _ => ?_, fun z => absurd (by rw [hM2.1.1]; exact nI_le (Nat.le_refl _) (by show yN T < 2 ^ 31; omega)) z⟩
      rw [show rsI I (m + 30) (nI (hiM (nowP T) c k)) (yN T) m 48 = nI (yA T) from hM2.1.2, nI_1]
      refine ⟨I2, c1, nI (hp T c), ?_, I6, nI (yA T), ?_, I6, rfl, rfl, c5, fun b j q => ?_⟩
      · rw [c2]; exact c3
      · rw [pk_sub hk]; exact c4
      · rw [c6 b j q, rsI_off (by unfold Fm at q; omega)]
  obtain ⟨I', h1, h2⟩ := rW_ex key
  exact ⟨I', e_X9_slit h1, h2⟩
theorem cm_lock_no {x y : Int32} (hA : At9 sh R m) (hV : V_sheet n T) (hM : M_sheet I m T) (h : yA T = 16 ∨ y < 2 ∨ ¬ y ≤ hgt (nowP T) x) : rMet γ l m_X9_lock [.ref m, .int x, .int y] (sh, I, J, R) (sh, I, J, R) (some (.int (-1))) := by
  have h16 := hV.2.2.1
  refine e_X9_lock (rW_pure (w_X9_lock_0 hA ?_))
  rw [hM.1.2]
  refine ⟨fun _ => ⟨rfl, rfl⟩, fun z1 => ⟨_, ct_isColumn hA hV hM, fun _ => ⟨rfl, rfl⟩, fun z2 => ⟨fun _ => ⟨rfl, rfl⟩, fun z3 => ?_⟩⟩⟩
  rw [bz_0, Classical.not_not] at z2
  rcases h with h | h | h
  · rw [h] at z1; exact absurd (by decide) z1
  · exact absurd h z3
  · rcases col_split hV h with g | ⟨c, rfl, hc, g⟩
    · exact absurd z2 g
    · exact ⟨_, lay_nI (x := 0) hA hV hM hc, fun z => absurd z g, fun _ => ⟨rfl, rfl⟩⟩
theorem mlock_loop {c k s : Nat} {Q : rHeap → Option Value → Prop} (hA : At9 sh R m) (hV : V_sheet n T) (hn : n < 2 ^ 31) (hM : M_sheet I m T) (hs : s < 2 ^ yN T) (K0 : (¬ ∀ i, s.testBit i = true → 0 < yS T i) → Q (sh, I, J, R) (some (.int (-2)))) (K1 : (∀ i, s.testBit i = true → 0 < yS T i) → s_X9_lock_51 γ l m (nI c) (nI k) (nI s) (nI (yN T)) (sh, I, J, R) Q) : ∀ j i, i + j = yN T → (∀ p, p < i → s.testBit p = true → 0 < yS T p) → s_X9_lock_51 γ l m (nI c) (nI k) (nI s) (nI i) (sh, I, J, R) Q := by
  have hN8 := hV.2.1
  have h31 : s < 2 ^ 31 := Nat.lt_of_lt_of_le hs (Nat.pow_le_pow_right (by omega) (by omega))
  intro j
  induction j with
  | zero =>
    intro i hi hb
    have e : i = yN T := by omega
    subst e
    refine K1 (fun p hp => hb p ?_ hp)
    rcases Nat.lt_or_ge p (yN T) with q | q
    · exact q
    · rw [bt_ge hs p q] at hp; exact absurd hp (by decide)
  | succ j ih =>
    intro i hi hb
    have hsi := hV.2.2.2.2.2.2.1 i (by omega)
    refine w_X9_lock_51 hA ⟨fun z => absurd z (by rw [hM.1.1]; exact nI_ge (by omega) (by omega)), fun _ => ?_⟩
    rw [bt_bit (by omega) h31, nI_1, nI_clamp (by omega), (hM.2.1 i (by omega)).2.1]
    refine ⟨fun z => ⟨vp_in_nI (by omega) (by decide), fun y => K0 (fun w => ?_), fun y => ih (i + 1) (by omega) (fun p hp hq => ?_)⟩, fun z => ih (i + 1) (by omega) (fun p hp hq => ?_)⟩
    · have hbit : s.testBit i = true := by cases q : s.testBit i; rw [q] at z; exact absurd z (by decide); rfl
      exact nI_ne0 (w i hbit) (by omega) y
    · by_cases e : p = i
      · subst e
        rcases Nat.eq_zero_or_pos (yS T p) with q | q
        · rw [q] at y; exact absurd (by decide) y
        · exact q
      · exact hb p (by omega) hq
    · by_cases e : p = i
      · subst e; rw [hq] at z; exact absurd (by decide) z
      · exact hb p (by omega) hq
theorem cm_lock_cant {c k : Nat} (hA : At9 sh R m) (hV : V_sheet n T) (hn : n < 2 ^ 31) (hM : M_sheet I m T) (h16 : yA T < 16) (hc : c < pW (nowP T)) (hk1 : 2 ≤ k) (hk : k ≤ hp T c) (hok : ¬ lockOk T c k) : rMet γ l m_X9_lock [.ref m, .int (nI c), .int (nI k)] (sh, I, J, R) (sh, I, J, R) (some (.int (-2))) := by
  obtain ⟨hP, hN⟩ := V_now hV
  have h8 := hp_le hV c
  have hw := hP.2.2.2.1
  have hs : hiM (nowP T) c k < 2 ^ yN T := by rw [← hN]; exact mkN_lt _ _
  refine e_X9_lock (rW_pure (w_X9_lock_0 hA ?_))
  rw [hM.1.2]
  refine ⟨fun z => absurd z (fun w => by rw [show (16 : Int32) = nI 16 by decide, nI_eq (by omega) (by decide)] at w; omega), fun _ => ⟨_, ct_isColumn hA hV hM, fun z => absurd ⟨nI_pos (by omega), nI_lt hc (by omega)⟩ (bz_0.mp z), fun _ => ⟨fun z => absurd z (nI_nlt hk1 (by omega)), fun _ => ⟨_, lay_nI (x := 0) hA hV hM hc, fun _ => ⟨_, ct_mhighest hA (by omega) hP (M_now hM) hc hk, ?_⟩, fun z => absurd (nI_le hk (by omega)) z⟩⟩⟩⟩
  exact mlock_loop hA hV hn hM hs (fun _ => ⟨rfl, rfl⟩) (fun z => absurd z hok) (yN T) 0 (by omega) (fun p hp => by omega)
theorem cm_lock_ok {c k : Nat} (hA : At9 sh R m) (hV : V_sheet n T) (hn : n < 2 ^ 31) (hM : M_sheet I m T) (h16 : yA T < 16) (hc : c < pW (nowP T)) (hk1 : 2 ≤ k) (hk : k ≤ hp T c) (hok : lockOk T c k) :
    ∃ I', rMet γ l m_X9_lock [.ref m, .int (nI c), .int (nI k)] (sh, I, J, R) (sh, I', J, R) (some (.int (nI (yA T)))) ∧ M_sheet I' m (lockT T c k) ∧ Sm (Fm m) I I' := by
  obtain ⟨hP, hN⟩ := V_now hV
  have h8 := hp_le hV c
  have hw := hP.2.2.2.1
  have hs : hiM (nowP T) c k < 2 ^ yN T := by rw [← hN]; exact mkN_lt _ _
  obtain ⟨I2, I6, c1, c2, c3, c4, c5, c6⟩ := M_pile (γ := γ) (l := l) (J := J) (kd := 3) (c := c) (k := k) (s := hiM (nowP T) c k) hA hV hM h16 hc
  have key : s_X9_lock_0 γ l m (nI c) (nI k) (sh, I, J, R) (fun hf v => ∃ I', hf = (sh, I', J, R) ∧ v = some (.int (nI (yA T))) ∧ (M_sheet I' m (lockT T c k) ∧ Sm (Fm m) I I')) := by
    refine w_X9_lock_0 hA ?_
    rw [hM.1.2]
    refine ⟨fun z => absurd z (fun w => by rw [show (16 : Int32) = nI 16 by decide, nI_eq (by omega) (by decide)] at w; omega), fun _ => ⟨_, ct_isColumn hA hV hM, fun z => absurd ⟨nI_pos (by omega), nI_lt hc (by omega)⟩ (bz_0.mp z), fun _ => ⟨fun z => absurd z (nI_nlt hk1 (by omega)), fun _ => ⟨_, lay_nI (x := 0) hA hV hM hc, fun _ => ⟨_, ct_mhighest hA (by omega) hP (M_now hM) hc hk, ?_⟩, fun z => absurd (nI_le hk (by omega)) z⟩⟩⟩⟩
    refine mlock_loop hA hV hn hM hs (fun z => absurd hok z) (fun _ => ?_) (yN T) 0 (by omega) (fun p hp => by omega)
    refine w_X9_lock_51 hA ⟨fun _ => ?_, fun z => absurd (by rw [hM.1.1]; exact nI_le (Nat.le_refl _) (by have := hV.2.1; omega)) z⟩
    rw [hM.1.2, nI_1]
    refine ⟨I2, c1, nI (hp T c), ?_, I6, nI (yA T), ?_, I6, rfl, rfl, c5, c6⟩
    · rw [c2]; exact c3
    · rw [pk_sub hk]; exact c4
  obtain ⟨I', h1, h2⟩ := rW_ex key
  exact ⟨I', e_X9_lock h1, h2⟩
theorem cm_seal_no {x : Int32} (hA : At9 sh R m) (hV : V_sheet n T) (hM : M_sheet I m T) (h : yA T = 16 ∨ ¬ (2 : Int32) ≤ hgt (nowP T) x) : rMet γ l m_X9_seal [.ref m, .int x] (sh, I, J, R) (sh, I, J, R) (some (.int (-1))) := by
  have h16 := hV.2.2.1
  refine e_X9_seal (rW_pure (w_X9_seal_0 hA ?_))
  rw [hM.1.2]
  refine ⟨fun _ => ⟨rfl, rfl⟩, fun z1 => ⟨_, ct_isColumn hA hV hM, fun _ => ⟨rfl, rfl⟩, fun z2 => ?_⟩⟩
  rw [bz_0, Classical.not_not] at z2
  rcases h with h | h
  · rw [h] at z1; exact absurd (by decide) z1
  · rcases col_split hV h with g | ⟨c, rfl, hc, g⟩
    · exact absurd z2 g
    · exact ⟨_, lay_nI (x := 0) hA hV hM hc, fun z => absurd z g, fun _ => ⟨rfl, rfl⟩⟩
theorem mseal_loop {c : Nat} {x : Int32} {Q : rHeap → Option Value → Prop} (hA : At9 sh R m) (hN : I m 39 = nI (yN T)) (hN8 : yN T ≤ 8) (K : s_X9_seal_45 γ l m (nI c) x (nI (yN T)) (sh, rsI I (m + 31) x (yN T), J, R) Q) : ∀ j i, i + j = yN T → s_X9_seal_45 γ l m (nI c) x (nI i) (sh, rsI I (m + 31) x i, J, R) Q := by
  intro j
  induction j with
  | zero =>
    intro i hi
    have e : i = yN T := by omega
    subst e
    exact K
  | succ j ih =>
    intro i hi
    have hv : vp_in (nI i) 8 := vp_in_nI (by omega) (by decide)
    refine w_X9_seal_45 hA ⟨fun z => absurd z ?_, fun _ => ⟨hv, hv, ?_⟩⟩
    · rw [rsI_off (by omega), hN]; exact nI_ge (by omega) (by omega)
    · rw [nI_clamp (by omega), rsI_s, nI_1]
      exact ih (i + 1) (by omega)
theorem cm_seal_ok {c : Nat} (hA : At9 sh R m) (hV : V_sheet n T) (hM : M_sheet I m T) (h16 : yA T < 16) (hc : c < pW (nowP T)) (hk : 2 ≤ hp T c) :
    ∃ I', rMet γ l m_X9_seal [.ref m, .int (nI c)] (sh, I, J, R) (sh, I', J, R) (some (.int (nI (yA T)))) ∧ M_sheet I' m (sealT T c) ∧ Sm (Fm m) I I' := by
  obtain ⟨hP, hN⟩ := V_now hV
  have h8 := hp_le hV c
  have hw := hP.2.2.2.1
  have hN8 := hV.2.1
  have hs : hiM (nowP T) c 2 < 2 ^ yN T := by rw [← hN]; exact mkN_lt _ _
  have hM2 := M_setW hV hM hs
  have hV2 : V_sheet n (setW T (hiM (nowP T) c 2)) := hV
  obtain ⟨I2, I6, c1, c2, c3, c4, c5, c6⟩ := M_pile (γ := γ) (l := l) (J := J) (kd := 4) (c := c) (k := 2) (s := hiM (nowP T) c 2) (T := setW T (hiM (nowP T) c 2)) hA hV2 hM2 h16 hc
  have key : s_X9_seal_0 γ l m (nI c) (sh, I, J, R) (fun hf v => ∃ I', hf = (sh, I', J, R) ∧ v = some (.int (nI (yA T))) ∧ (M_sheet I' m (sealT T c) ∧ Sm (Fm m) I I')) := by
    refine w_X9_seal_0 hA ?_
    rw [hM.1.2]
    refine ⟨fun z => absurd z (fun w => by rw [show (16 : Int32) = nI 16 by decide, nI_eq (by omega) (by decide)] at w; omega), fun _ => ⟨_, ct_isColumn hA hV hM, fun z => absurd ⟨nI_pos (by omega), nI_lt hc (by omega)⟩ (bz_0.mp z), fun _ => ⟨_, lay_nI (x := 0) hA hV hM hc, fun _ => ⟨_, ct_mhighest (k := 2) hA (by omega) hP (M_now hM) hc hk, ?_⟩, fun z => absurd (nI_le hk (by omega)) z⟩⟩⟩
    have lp := mseal_loop (γ := γ) (l := l) (J := J) (c := c) (T := T) (x := nI (hiM (nowP T) c 2)) (Q := fun hf v => ∃ I', hf = (sh, I', J, R) ∧ v = some (.int (nI (yA T))) ∧ (M_sheet I' m (sealT T c) ∧ Sm (Fm m) I I')) hA hM.1.1 hN8 ?_ (yN T) 0 (by omega)
    · rw [rsI_0] at lp; exact lp
    · refine w_X9_seal_45 hA ⟨fun _ => ?_, fun z => absurd (by rw [hM2.1.1]; exact nI_le (Nat.le_refl _) (by show yN T < 2 ^ 31; omega)) z⟩
      rw [show rsI I (m + 31) (nI (hiM (nowP T) c 2)) (yN T) m 48 = nI (yA T) from hM2.1.2, nI_1]
      refine ⟨I2, c1, nI (hp T c), ?_, I6, nI (yA T), ?_, I6, rfl, rfl, c5, fun b j q => ?_⟩
      · rw [c2]; exact c3
      · rw [show (2 : Int32) = nI 2 by decide, pk_sub hk]; exact c4
      · rw [c6 b j q, rsI_off (by unfold Fm at q; omega)]
  obtain ⟨I', h1, h2⟩ := rW_ex key
  exact ⟨I', e_X9_seal h1, h2⟩
theorem cm_soil_no (hA : At9 sh R m) (hM : M_sheet I m T) (h : yA T = 16) : rMet γ l m_X9_soil [.ref m] (sh, I, J, R) (sh, I, J, R) (some (.int (-1))) := by
  refine e_X9_soil (rW_pure (w_X9_soil_0 hA ?_))
  rw [hM.1.2, h]
  exact ⟨fun _ => ⟨rfl, rfl⟩, fun z => absurd (by decide) z⟩
def sdI (I : Nat → Nat → Int32) (m s k : Nat) : Nat → Nat → Int32 := fun b j => if b = m + 32 ∧ j < k ∧ s.testBit j = true then 1 else I b j
theorem msoil_loop {s : Nat} {Q : rHeap → Option Value → Prop} (hA : At9 sh R m) (h31 : s < 2 ^ 31) (K : s_X9_soil_22 γ l m (nI s) (nI 16) (sh, sdI I m s 16, J, R) Q) : ∀ j i, i + j = 16 → s_X9_soil_22 γ l m (nI s) (nI i) (sh, sdI I m s i, J, R) Q := by
  intro j
  induction j with
  | zero =>
    intro i hi
    have e : i = 16 := by omega
    subst e
    exact K
  | succ j ih =>
    intro i hi
    have nx := ih (i + 1) (by omega)
    refine w_X9_soil_22 hA ⟨fun z => absurd z (nI_ge (show i < 16 by omega) (by decide)), fun _ => ?_⟩
    rw [bt_bit (by omega) h31, nI_1, nI_clamp (by omega)]
    refine ⟨fun z => ⟨vp_in_nI (by omega) (by decide), ?_⟩, fun z => ?_⟩
    · have hbit : s.testBit i = true := by cases q : s.testBit i; rw [q] at z; exact absurd z (by decide); rfl
      have e : up (sdI I m s i) (m + 32) i (vp_nar .boolean (1 : Int32)) = sdI I m s (i + 1) := by
        funext b t
        simp only [up_at, sdI]
        by_cases h1 : b = m + 32 ∧ t = i
        · rw [if_pos h1, if_pos ⟨h1.1, by omega, by rw [h1.2]; exact hbit⟩]; decide
        · rw [if_neg h1]
          by_cases h2 : b = m + 32 ∧ t < i ∧ s.testBit t = true
          · rw [if_pos h2, if_pos ⟨h2.1, by omega, h2.2.2⟩]
          · rw [if_neg h2, if_neg (fun w => h2 ⟨w.1, by omega, w.2.2⟩)]
      rw [e]
      exact nx
    · have e : sdI I m s (i + 1) = sdI I m s i := by
        funext b t
        simp only [sdI]
        by_cases h2 : b = m + 32 ∧ t < i ∧ s.testBit t = true
        · rw [if_pos h2, if_pos ⟨h2.1, by omega, h2.2.2⟩]
        · rw [if_neg h2, if_neg (fun w => ?_)]
          by_cases h3 : t = i
          · rw [h3] at w; rw [w.2.2] at z; exact z (by decide)
          · exact h2 ⟨w.1, by omega, w.2.2⟩
      rw [e] at nx
      exact nx
theorem M_setD {s : Nat} (hV : V_sheet n T) (hM : M_sheet I m T) : M_sheet (sdI I m s 16) m (setD T (yD T ||| s)) := by
  have off : ∀ b j, b ≠ m + 32 → sdI I m s 16 b j = I b j := fun b j h => by unfold sdI; rw [if_neg (fun z => h z.1)]
  refine M_rows hM hV rfl rfl rfl rfl (fun b j q => off b j (by omega)) (fun i hi => ⟨(off _ _ (by omega)).trans (hM.2.1 i hi).1, (off _ _ (by omega)).trans (hM.2.1 i hi).2.1, (off _ _ (by omega)).trans (hM.2.1 i hi).2.2⟩) (fun f hf => ?_)
  show sdI I m s 16 (m + 32) f = nz ((yD T ||| s).testBit f)
  rw [Nat.testBit_or]
  unfold sdI
  cases q : s.testBit f
  · rw [if_neg (by simp), hM.2.2.1 f hf, Bool.or_false]
  · rw [if_pos ⟨rfl, hf, rfl⟩, Bool.or_true]; rfl
theorem cm_soil_ok (hA : At9 sh R m) (hV : V_sheet n T) (hM : M_sheet I m T) (h16 : yA T < 16) :
    ∃ I', rMet γ l m_X9_soil [.ref m] (sh, I, J, R) (sh, I', J, R) (some (.int (nI (yA T)))) ∧ M_sheet I' m (soilT T) ∧ Sm (Fm m) I I' := by
  obtain ⟨hP, hN⟩ := V_now hV
  have h8 := hP.2.1
  have hM2 := M_setD (s := ouM (nowP T)) hV hM
  have hV2 : V_sheet n (setD T (yD T ||| ouM (nowP T))) := by
    obtain ⟨h1, h2, h3, h4, h5, h6, h7, h8⟩ := hV
    refine ⟨h1, h2, h3, h4, ?_, h6, h7, h8⟩
    show yD T ||| ouM (nowP T) < 2 ^ (2 * yN T)
    exact Nat.or_lt_two_pow h5 (by rw [← hN]; exact ouM_16 hP)
  obtain ⟨I2, c1, c2, c3, c4⟩ := M_copy (γ := γ) (l := l) (J := J) hA hV2 hM2 h16
  have key : s_X9_soil_0 γ l m (sh, I, J, R) (fun hf v => ∃ I', hf = (sh, I', J, R) ∧ v = some (.int (nI (yA T))) ∧ (M_sheet I' m (soilT T) ∧ Sm (Fm m) I I')) := by
    refine w_X9_soil_0 hA ?_
    rw [hM.1.2]
    refine ⟨fun z => absurd z (fun w => by rw [show (16 : Int32) = nI 16 by decide, nI_eq (by omega) (by decide)] at w; omega), fun _ => ⟨_, ct_outer hA (by omega) hP (M_now hM), ?_⟩⟩
    have lp := msoil_loop (γ := γ) (l := l) (I := I) (J := J) (s := ouM (nowP T)) (Q := fun hf v => ∃ I', hf = (sh, I', J, R) ∧ v = some (.int (nI (yA T))) ∧ (M_sheet I' m (soilT T) ∧ Sm (Fm m) I I')) hA (ouM_31 hP) ?_ 16 0 (by omega)
    · have e : sdI I m (ouM (nowP T)) 0 = I := by funext b j; unfold sdI; rw [if_neg (by omega)]
      rw [e] at lp; exact lp
    · refine w_X9_soil_22 hA ⟨fun _ => ?_, fun z => absurd (by decide) z⟩
      rw [show sdI I m (ouM (nowP T)) 16 m 48 = nI (yA T) from hM2.1.2, nI_1]
      refine ⟨I2, c1, _, _, ct_acted hA h16 c2.1.2, _, rfl, rfl, ?_, fun b j q => ?_⟩
      · have := M_keep (k1 := 5) (k2 := 0) (k3 := 0) (k4 := 0) (k5 := 0) c2 c3 h8 (fun i hi => by have := (hV.2.2.2.2.2.1 i hi).2; have := hV.2.1; show pN (yP T i) ≤ 8; omega)
        rw [nI_0] at this
        exact this
      · unfold Fm at q
        rw [kpI_off (by show ¬ (b = m ∧ j = 48); omega) (by show ¬ (m + 33 ≤ b ∧ b < m + 33 + 5 ∧ j = yA T); omega), c4 b j (by unfold Ft; show ¬ ((b = m + 25 ∧ j = yA T + 1) ∨ ((b = m + 26 ∨ b = m + 27 ∨ b = m + 28) ∧ 8 * (yA T + 1) ≤ j ∧ j < 8 * (yA T + 1) + 8)); omega)]
        unfold sdI
        rw [if_neg (fun z => by omega)]
  obtain ⟨I', h1, h2⟩ := rW_ex key
  exact ⟨I', e_X9_soil h1, h2⟩
end MPL
