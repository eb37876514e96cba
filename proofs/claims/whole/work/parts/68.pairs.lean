/-! ===== pairs of calls on the sheet ===== -/
def Psh (b j : Nat) : Prop := Fc 5 b j ∨ Fm 169 b j
/-- both hold the same sheet -/
def S_sheet (n : Nat) (I : Nat → Nat → Int32) (T : Sht) : Prop := V_sheet n T ∧ C_sheet I 5 T ∧ M_sheet I 169 T
theorem S_sheet.loc {n : Nat} {I I' : Nat → Nat → Int32} {T : Sht} (h : S_sheet n I T) (hq : ∀ b j, Psh b j → I' b j = I b j) : S_sheet n I' T :=
  ⟨h.1, h.2.1.loc h.1.2.2.1 (fun b j q _ => hq b j (Or.inl q)), h.2.2.loc h.1 (fun b j q _ => hq b j (Or.inr q))⟩
theorem S_sheet.mono {n k : Nat} {I : Nat → Nat → Int32} {T : Sht} (h : S_sheet n I T) (hk : n ≤ k) : S_sheet k I T := ⟨V_mono h.1 hk, h.2⟩
theorem CM_off {I I1 : Nat → Nat → Int32} (h : Sm (Fc 5) I I1) : ∀ b j, Fm 169 b j → I1 b j = I b j := fun b j q => h b j (fun w => by unfold Fc at w; unfold Fm at q; omega)
theorem MC_off {I I1 : Nat → Nat → Int32} (h : Sm (Fm 169) I I1) : ∀ b j, Fc 5 b j → I1 b j = I b j := fun b j q => h b j (fun w => by unfold Fc at q; unfold Fm at w; omega)
theorem Sm_two {I I1 I2 : Nat → Nat → Int32} (h1 : Sm (Fc 5) I I1) (h2 : Sm (Fm 169) I1 I2) : Sm Psh I I2 := (h1.mono (fun _ _ q => Or.inl q)).tr (h2.mono (fun _ _ q => Or.inr q))
theorem nz_of {x : Int32} (h : x = 0 ∨ x = 1) : ∃ b : Bool, x = nz b := by
  rcases h with h | h
  · exact ⟨false, h⟩
  · exact ⟨true, h⟩
theorem line_cases {n : Nat} {T : Sht} (hV : V_sheet n T) (x : Int32) : (yA T = 16 ∨ x < 1 ∨ ¬ x < nI (pW (nowP T))) ∨ (yA T < 16 ∧ ∃ y : Nat, x = nI y ∧ 1 ≤ y ∧ y < pW (nowP T)) := by
  by_cases g1 : yA T = 16
  · exact Or.inl (Or.inl g1)
  by_cases g2 : x < 1
  · exact Or.inl (Or.inr (Or.inl g2))
  by_cases g3 : x < nI (pW (nowP T))
  · right
    have hw := (V_now hV).1.2.2.2.1
    have h16 := hV.2.2.1
    have x0 : ¬ x < 0 := fun q => g2 (by rw [Int32.lt_iff_toInt_lt] at q ⊢; have e0 : (0 : Int32).toInt = 0 := (by decide); have e1 : (1 : Int32).toInt = 1 := (by decide); omega)
    obtain ⟨y, hy, rfl⟩ := nI_of x0
    refine ⟨by omega, y, rfl, ?_, (nI_ltI hy (by omega)).mp g3⟩
    rcases Nat.lt_or_ge y 1 with q | q
    · have : y = 0 := by omega
      subst this
      exact absurd (by decide) g2
    · exact q
  · exact Or.inl (Or.inr (Or.inr g3))
section PRS
variable {γ : rG} {l : Launch} {sh : Nat × (Nat → Nat) × (Nat → Nat)} {I : Nat → Nat → Int32} {J : Nat → Nat → Int64} {R : Nat → Nat → Option Nat} {n : Nat} {T : Sht}
theorem pc_fold (hA : At8 sh R 0) (hB : At9 sh R 169) (hS : S_sheet n I T) (x : Int32) (left over : Bool) : ∃ (I1 I2 : Nat → Nat → Int32) (v : Int32), rMet γ l m_X8_fold [.ref 0, .int x, .int (nz left), .int (nz over)] (sh, I, J, R) (sh, I1, J, R) (some (.int v)) ∧ rMet γ l m_X9_fold [.ref 169, .int x, .int (nz left), .int (nz over)] (sh, I1, J, R) (sh, I2, J, R) (some (.int v)) ∧ (∃ T', S_sheet n I2 T' ∧ yN T' = yN T) ∧ Sm Psh I I2 := by
  obtain ⟨hV, hC, hM⟩ := hS
  have hA5 : At5 sh R 5 := (At8_2 hA).2
  rcases line_cases hV x with h | ⟨h16, y, rfl, hx1, hx⟩
  · refine ⟨I, I, -1, e_X8_fold (rW_pure (w_X8_fold_0 hA ⟨fun _ => ⟨_, _, ct_turnAt_no hA5 hV hC h, rfl, rfl⟩, fun _ => ⟨_, _, ct_turnAt_no hA5 hV hC h, rfl, rfl⟩⟩)), cm_fold_no hB hV hM h, ⟨T, ⟨hV, hC, hM⟩, rfl⟩, Sm.rf⟩
  · obtain ⟨I1, c1, c2, c3⟩ := ct_turnAt_ok (γ := γ) (l := l) (J := J) (left := left) (k := 0) (lev := if over then 8 else 0) hA5 hV hC h16 hx1 hx (by split <;> omega) (by decide) (fun z => absurd z (by decide))
    have hM1 : M_sheet I1 169 T := hM.loc hV (fun b j q _ => CM_off c3 b j q)
    obtain ⟨I2, d1, d2, d3⟩ := cm_fold_ok (γ := γ) (l := l) (J := J) (left := left) (over := over) hB hV hM1 h16 hx1 hx
    have hV2 := V_turn (left := left) (k := 0) (lev := if over then 8 else 0) hV h16 hx1 hx (by decide)
    refine ⟨I1, I2, nI (yA T), e_X8_fold (rW_pure (w_X8_fold_0 hA ⟨fun z => ⟨_, _, ?_, rfl, rfl⟩, fun z => ⟨_, _, ?_, rfl, rfl⟩⟩)), d1, ⟨_, ⟨hV2, c2.loc hV2.2.2.1 (fun b j q _ => MC_off d3 b j q), d2⟩, rfl⟩, Sm_two c3 d3⟩
    · rw [show over = false from nz_0.mp z] at c1; exact c1
    · have e : over = true := by
        cases over
        · exact absurd (by decide) z
        · rfl
      rw [e] at c1; exact c1
theorem pc_tuck (hA : At8 sh R 0) (hB : At9 sh R 169) (hS : S_sheet n I T) (x lv : Int32) (left : Bool) : ∃ (I1 I2 : Nat → Nat → Int32) (v : Int32), rMet γ l m_X8_tuck [.ref 0, .int x, .int (nz left), .int lv] (sh, I, J, R) (sh, I1, J, R) (some (.int v)) ∧ rMet γ l m_X9_tuck [.ref 169, .int x, .int (nz left), .int lv] (sh, I1, J, R) (sh, I2, J, R) (some (.int v)) ∧ (∃ T', S_sheet n I2 T' ∧ yN T' = yN T) ∧ Sm Psh I I2 := by
  obtain ⟨hV, hC, hM⟩ := hS
  have hA5 : At5 sh R 5 := (At8_2 hA).2
  by_cases g1 : lv < 0
  · exact ⟨I, I, -1, e_X8_tuck (rW_pure (w_X8_tuck_0 hA ⟨fun _ => ⟨rfl, rfl⟩, fun z => absurd g1 z⟩)), cm_tuck_no hB hV hM (Or.inr (Or.inr (Or.inr (Or.inl g1)))), ⟨T, ⟨hV, hC, hM⟩, rfl⟩, Sm.rf⟩
  by_cases g2 : lv ≤ 8
  · rcases line_cases hV x with h | ⟨h16, y, rfl, hx1, hx⟩
    · refine ⟨I, I, -1, e_X8_tuck (rW_pure (w_X8_tuck_0 hA ⟨fun z => absurd z g1, fun _ => ⟨fun _ => ⟨_, _, ct_turnAt_no hA5 hV hC h, rfl, rfl⟩, fun z => absurd g2 z⟩⟩)), cm_tuck_no hB hV hM (h.elim Or.inl (fun h => h.elim (fun q => Or.inr (Or.inl q)) (fun q => Or.inr (Or.inr (Or.inl q))))), ⟨T, ⟨hV, hC, hM⟩, rfl⟩, Sm.rf⟩
    · obtain ⟨lev, hl, rfl⟩ := nI_of2 (M := 8) (n := 8) (by decide) g1 g2
      by_cases hp : Pass (turnP (nowP T) y left lev)
      · obtain ⟨I1, c1, c2, c3⟩ := ct_turnAt_cant (γ := γ) (l := l) (J := J) hA5 hV hC h16 hx1 hx hl hp
        have hM1 : M_sheet I1 169 T := hM.loc hV (fun b j q _ => CM_off c3 b j q)
        obtain ⟨I2, d1, d2, d3⟩ := cm_tuck_ok (γ := γ) (l := l) (J := J) (left := left) hB hV hM1 h16 hx1 hx hl
        rw [@decide_eq_true _ (Classical.propDecidable _) hp] at d1 d2
        exact ⟨I1, I2, -2, e_X8_tuck (rW_pure (w_X8_tuck_0 hA ⟨fun z => absurd z g1, fun _ => ⟨fun _ => ⟨_, _, c1, rfl, rfl⟩, fun z => absurd g2 z⟩⟩)), d1, ⟨T, ⟨hV, c2.loc hV.2.2.1 (fun b j q _ => MC_off d3 b j q), d2⟩, rfl⟩, Sm_two c3 d3⟩
      · obtain ⟨I1, c1, c2, c3⟩ := ct_turnAt_ok (γ := γ) (l := l) (J := J) (left := left) (k := 1) (lev := lev) hA5 hV hC h16 hx1 hx hl (by decide) (fun _ => hp)
        have hM1 : M_sheet I1 169 T := hM.loc hV (fun b j q _ => CM_off c3 b j q)
        obtain ⟨I2, d1, d2, d3⟩ := cm_tuck_ok (γ := γ) (l := l) (J := J) (left := left) hB hV hM1 h16 hx1 hx hl
        rw [@decide_eq_false _ (Classical.propDecidable _) hp] at d1 d2
        have hV2 := V_turn (left := left) (k := 1) (lev := lev) hV h16 hx1 hx (by decide)
        exact ⟨I1, I2, nI (yA T), e_X8_tuck (rW_pure (w_X8_tuck_0 hA ⟨fun z => absurd z g1, fun _ => ⟨fun _ => ⟨_, _, c1, rfl, rfl⟩, fun z => absurd g2 z⟩⟩)), d1, ⟨_, ⟨hV2, c2.loc hV2.2.2.1 (fun b j q _ => MC_off d3 b j q), d2⟩, rfl⟩, Sm_two c3 d3⟩
  · exact ⟨I, I, -1, e_X8_tuck (rW_pure (w_X8_tuck_0 hA ⟨fun z => absurd z g1, fun _ => ⟨fun z => absurd z g2, fun _ => ⟨rfl, rfl⟩⟩⟩)), cm_tuck_no hB hV hM (Or.inr (Or.inr (Or.inr (Or.inr g2)))), ⟨T, ⟨hV, hC, hM⟩, rfl⟩, Sm.rf⟩
theorem pc_slit (hA : At8 sh R 0) (hB : At9 sh R 169) (hS : S_sheet n I T) (x y : Int32) : ∃ (I1 I2 : Nat → Nat → Int32) (v : Int32), rMet γ l m_X8_slit [.ref 0, .int x, .int y] (sh, I, J, R) (sh, I1, J, R) (some (.int v)) ∧ rMet γ l m_X9_slit [.ref 169, .int x, .int y] (sh, I1, J, R) (sh, I2, J, R) (some (.int v)) ∧ (∃ T', S_sheet (n + 1) I2 T' ∧ yN T' = yN T) ∧ Sm Psh I I2 := by
  obtain ⟨hV, hC, hM⟩ := hS
  have hA5 : At5 sh R 5 := (At8_2 hA).2
  have no : (yA T = 16 ∨ y < 1 ∨ ¬ y ≤ hgt (nowP T) x) → ∃ (I1 I2 : Nat → Nat → Int32) (v : Int32), rMet γ l m_X8_slit [.ref 0, .int x, .int y] (sh, I, J, R) (sh, I1, J, R) (some (.int v)) ∧ rMet γ l m_X9_slit [.ref 169, .int x, .int y] (sh, I1, J, R) (sh, I2, J, R) (some (.int v)) ∧ (∃ T', S_sheet (n + 1) I2 T' ∧ yN T' = yN T) ∧ Sm Psh I I2 := fun h =>
    ⟨I, I, -1, e_X8_slit (rW_pure (w_X8_slit_0 hA ⟨_, _, ct_cut_no hA5 hV hC h, rfl, rfl⟩)), cm_slit_no hB hV hM h, ⟨T, ⟨V_mono hV (by omega), hC, hM⟩, rfl⟩, Sm.rf⟩
  by_cases g1 : yA T = 16
  · exact no (Or.inl g1)
  rcases col_cases (lo := 1) (x := x) (y := y) hV (by omega) with h | ⟨c, k, rfl, rfl, hc, hk1, hk⟩
  · exact no (Or.inr h)
  · have h16 : yA T < 16 := by have := hV.2.2.1; omega
    have hP := (V_now hV).1
    obtain ⟨I1, c1, c2, c3⟩ := ct_cut_ok (γ := γ) (l := l) (J := J) hA5 hV hC h16 hc hk1 hk
    have hM1 : M_sheet I1 169 T := hM.loc hV (fun b j q _ => CM_off c3 b j q)
    obtain ⟨I2, d1, d2, d3⟩ := cm_slit_ok (γ := γ) (l := l) (J := J) hB hV hM1 h16 hc hk1 hk
    have h8 := hp_le hV c
    have hw := hP.2.2.2.1
    have hV2 : V_sheet (n + 1) (slitT T c k) := V_keep (V_setS hV) h16 hP (V_now hV).2 ⟨Nat.le_of_ble_eq_true rfl, by show k ≤ 8; omega, by show c ≤ 8; omega, by show hp T c - k ≤ 8; omega, Nat.two_pow_pos 8⟩
    exact ⟨I1, I2, nI (yA T), e_X8_slit (rW_pure (w_X8_slit_0 hA ⟨_, _, c1, rfl, rfl⟩)), d1, ⟨_, ⟨hV2, c2.loc hV2.2.2.1 (fun b j q _ => MC_off d3 b j q), d2⟩, rfl⟩, Sm_two c3 d3⟩
theorem pc_lock (hA : At8 sh R 0) (hB : At9 sh R 169) (hn : n < 2 ^ 31) (hS : S_sheet n I T) (x y : Int32) : ∃ (I1 I2 : Nat → Nat → Int32) (v : Int32), rMet γ l m_X8_lock [.ref 0, .int x, .int y] (sh, I, J, R) (sh, I1, J, R) (some (.int v)) ∧ rMet γ l m_X9_lock [.ref 169, .int x, .int y] (sh, I1, J, R) (sh, I2, J, R) (some (.int v)) ∧ (∃ T', S_sheet n I2 T' ∧ yN T' = yN T) ∧ Sm Psh I I2 := by
  obtain ⟨hV, hC, hM⟩ := hS
  have hA5 : At5 sh R 5 := (At8_2 hA).2
  have no : (yA T = 16 ∨ y < 2 ∨ ¬ y ≤ hgt (nowP T) x) → ∃ (I1 I2 : Nat → Nat → Int32) (v : Int32), rMet γ l m_X8_lock [.ref 0, .int x, .int y] (sh, I, J, R) (sh, I1, J, R) (some (.int v)) ∧ rMet γ l m_X9_lock [.ref 169, .int x, .int y] (sh, I1, J, R) (sh, I2, J, R) (some (.int v)) ∧ (∃ T', S_sheet n I2 T' ∧ yN T' = yN T) ∧ Sm Psh I I2 := fun h =>
    ⟨I, I, -1, e_X8_lock (rW_pure (w_X8_lock_0 hA ⟨_, _, ct_strip_no hA5 hV hC h, rfl, rfl⟩)), cm_lock_no hB hV hM h, ⟨T, ⟨hV, hC, hM⟩, rfl⟩, Sm.rf⟩
  by_cases g1 : yA T = 16
  · exact no (Or.inl g1)
  rcases col_cases (lo := 2) (x := x) (y := y) hV (by omega) with h | ⟨c, k, rfl, rfl, hc, hk1, hk⟩
  · exact no (Or.inr h)
  · have h16 : yA T < 16 := by have := hV.2.2.1; omega
    have hP := (V_now hV).1
    by_cases hok : lockOk T c k
    · obtain ⟨I1, c1, c2, c3⟩ := ct_strip_ok (γ := γ) (l := l) (J := J) hA5 hV hn hC h16 hc hk1 hk hok
      have hM1 : M_sheet I1 169 T := hM.loc hV (fun b j q _ => CM_off c3 b j q)
      obtain ⟨I2, d1, d2, d3⟩ := cm_lock_ok (γ := γ) (l := l) (J := J) hB hV hn hM1 h16 hc hk1 hk hok
      have h8 := hp_le hV c
      have hw := hP.2.2.2.1
      have hV2 : V_sheet n (lockT T c k) := V_keep hV h16 hP (V_now hV).2 ⟨Nat.le_of_ble_eq_true rfl, by show k ≤ 8; omega, by show c ≤ 8; omega, by show hp T c - k ≤ 8; omega, hiM_8 hP⟩
      exact ⟨I1, I2, nI (yA T), e_X8_lock (rW_pure (w_X8_lock_0 hA ⟨_, _, c1, rfl, rfl⟩)), d1, ⟨_, ⟨hV2, c2.loc hV2.2.2.1 (fun b j q _ => MC_off d3 b j q), d2⟩, rfl⟩, Sm_two c3 d3⟩
    · exact ⟨I, I, -2, e_X8_lock (rW_pure (w_X8_lock_0 hA ⟨_, _, ct_strip_cant hA5 hV hn hC h16 hc hk1 hk hok, rfl, rfl⟩)), cm_lock_cant hB hV hn hM h16 hc hk1 hk hok, ⟨T, ⟨hV, hC, hM⟩, rfl⟩, Sm.rf⟩
theorem pc_seal (hA : At8 sh R 0) (hB : At9 sh R 169) (hS : S_sheet n I T) (x : Int32) : ∃ (I1 I2 : Nat → Nat → Int32) (v : Int32), rMet γ l m_X8_seal [.ref 0, .int x] (sh, I, J, R) (sh, I1, J, R) (some (.int v)) ∧ rMet γ l m_X9_seal [.ref 169, .int x] (sh, I1, J, R) (sh, I2, J, R) (some (.int v)) ∧ (∃ T', S_sheet n I2 T' ∧ yN T' = yN T) ∧ Sm Psh I I2 := by
  obtain ⟨hV, hC, hM⟩ := hS
  have hA5 : At5 sh R 5 := (At8_2 hA).2
  have no : (yA T = 16 ∨ ¬ (2 : Int32) ≤ hgt (nowP T) x) → ∃ (I1 I2 : Nat → Nat → Int32) (v : Int32), rMet γ l m_X8_seal [.ref 0, .int x] (sh, I, J, R) (sh, I1, J, R) (some (.int v)) ∧ rMet γ l m_X9_seal [.ref 169, .int x] (sh, I1, J, R) (sh, I2, J, R) (some (.int v)) ∧ (∃ T', S_sheet n I2 T' ∧ yN T' = yN T) ∧ Sm Psh I I2 := fun h =>
    ⟨I, I, -1, e_X8_seal (rW_pure (w_X8_seal_0 hA ⟨_, _, ct_wax_no hA5 hV hC h, rfl, rfl⟩)), cm_seal_no hB hV hM h, ⟨T, ⟨hV, hC, hM⟩, rfl⟩, Sm.rf⟩
  by_cases g1 : yA T = 16
  · exact no (Or.inl g1)
  rcases col_cases (lo := 2) (x := x) (y := (2 : Int32)) hV (by omega) with (h | h) | ⟨c, k, rfl, hk2, hc, hk1, hk⟩
  · exact absurd h (by decide)
  · exact no (Or.inr h)
  · have h16 : yA T < 16 := by have := hV.2.2.1; omega
    have hP := (V_now hV).1
    have hk0 : 2 ≤ hp T c := Nat.le_trans hk1 hk
    obtain ⟨I1, c1, c2, c3⟩ := ct_wax_ok (γ := γ) (l := l) (J := J) hA5 hV hC h16 hc hk0
    have hM1 : M_sheet I1 169 T := hM.loc hV (fun b j q _ => CM_off c3 b j q)
    obtain ⟨I2, d1, d2, d3⟩ := cm_seal_ok (γ := γ) (l := l) (J := J) hB hV hM1 h16 hc hk0
    have h8 := hp_le hV c
    have hw := hP.2.2.2.1
    have hVw : V_sheet n (setW T (hiM (nowP T) c 2)) := hV
    have hV2 : V_sheet n (sealT T c) := V_keep hVw h16 hP (V_now hV).2 ⟨Nat.le_of_ble_eq_true rfl, by show 2 ≤ 8; omega, by show c ≤ 8; omega, by show hp T c - 2 ≤ 8; omega, hiM_8 hP⟩
    exact ⟨I1, I2, nI (yA T), e_X8_seal (rW_pure (w_X8_seal_0 hA ⟨_, _, c1, rfl, rfl⟩)), d1, ⟨_, ⟨hV2, c2.loc hV2.2.2.1 (fun b j q _ => MC_off d3 b j q), d2⟩, rfl⟩, Sm_two c3 d3⟩
theorem pc_soil (hA : At8 sh R 0) (hB : At9 sh R 169) (hS : S_sheet n I T) : ∃ (I1 I2 : Nat → Nat → Int32) (v : Int32), rMet γ l m_X8_soil [.ref 0] (sh, I, J, R) (sh, I1, J, R) (some (.int v)) ∧ rMet γ l m_X9_soil [.ref 169] (sh, I1, J, R) (sh, I2, J, R) (some (.int v)) ∧ (∃ T', S_sheet n I2 T' ∧ yN T' = yN T) ∧ Sm Psh I I2 := by
  obtain ⟨hV, hC, hM⟩ := hS
  have hA5 : At5 sh R 5 := (At8_2 hA).2
  by_cases g1 : yA T = 16
  · exact ⟨I, I, -1, e_X8_soil (rW_pure (w_X8_soil_0 hA ⟨_, _, ct_dirty_no hA5 hC g1, rfl, rfl⟩)), cm_soil_no hB hM g1, ⟨T, ⟨hV, hC, hM⟩, rfl⟩, Sm.rf⟩
  · have h16 : yA T < 16 := by have := hV.2.2.1; omega
    obtain ⟨hP, hN⟩ := V_now hV
    obtain ⟨I1, c1, c2, c3⟩ := ct_dirty_ok (γ := γ) (l := l) (J := J) hA5 hV hC h16
    have hM1 : M_sheet I1 169 T := hM.loc hV (fun b j q _ => CM_off c3 b j q)
    obtain ⟨I2, d1, d2, d3⟩ := cm_soil_ok (γ := γ) (l := l) (J := J) hB hV hM1 h16
    have hVd : V_sheet n (setD T (yD T ||| ouM (nowP T))) := by
      obtain ⟨h1, h2, h3, h4, h5, h6, h7, h8⟩ := hV
      refine ⟨h1, h2, h3, h4, ?_, h6, h7, h8⟩
      show yD T ||| ouM (nowP T) < 2 ^ (2 * yN T)
      exact Nat.or_lt_two_pow h5 (by rw [← hN]; exact ouM_16 hP)
    have hV2 : V_sheet n (soilT T) := V_keep hVd h16 hP hN ⟨by decide, Nat.zero_le _, Nat.zero_le _, Nat.zero_le _, Nat.two_pow_pos 8⟩
    exact ⟨I1, I2, nI (yA T), e_X8_soil (rW_pure (w_X8_soil_0 hA ⟨_, _, c1, rfl, rfl⟩)), d1, ⟨_, ⟨hV2, c2.loc hV2.2.2.1 (fun b j q _ => MC_off d3 b j q), d2⟩, rfl⟩, Sm_two c3 d3⟩
theorem pc_mark (hA : At8 sh R 0) (hB : At9 sh R 169) (hS : S_sheet n I T) (x : Int32) : ∃ (v : Int32), rMet γ l m_X8_mark [.ref 0, .int x] (sh, I, J, R) (sh, I, J, R) (some (.int v)) ∧ rMet γ l m_X9_mark [.ref 169, .int x] (sh, I, J, R) (sh, I, J, R) (some (.int v)) := by
  obtain ⟨hV, hC, hM⟩ := hS
  have h2 := hV.1
  have h8 := hV.2.1
  have e5 : I (0 + 5) 0 = nI (yN T) := hC.1.1
  have e52 : I (0 + 5) 2 = nI (yC T) := hC.1.2.2.1
  have em : I 169 39 = nI (yN T) := hM.1.1
  have e1 : nI (yN T) - (1 : Int32) = nI (yN T - 1) := pk_sub (b := 1) (by omega)
  have hcl : yC T < 2 ^ 31 := Nat.lt_of_lt_of_le hV.2.2.2.1 (Nat.pow_le_pow_right (by omega) (by omega))
  rcases pk_ix x (n := yN T - 1) (by omega) with g | g | ⟨j, hj, rfl⟩
  · exact ⟨-1, e_X8_mark (rW_pure (w_X8_mark_0 hA ⟨fun _ => ⟨rfl, rfl⟩, fun z => absurd g z⟩)), e_X9_mark (rW_pure (w_X9_mark_0 hB ⟨fun _ => ⟨rfl, rfl⟩, fun z => absurd g z⟩))⟩
  · have g0 : ¬ x < 0 := fun q => nI_pos (n := yN T - 1) (by omega) (Int32.lt_of_le_of_lt g q)
    refine ⟨-1, e_X8_mark (rW_pure (w_X8_mark_0 hA ⟨fun _ => ⟨rfl, rfl⟩, fun _ => ?_⟩)), e_X9_mark (rW_pure (w_X9_mark_0 hB ⟨fun _ => ⟨rfl, rfl⟩, fun _ => ?_⟩))⟩
    · rw [e5, e1]; exact ⟨fun z => absurd z (Int32.not_lt.mpr g), fun _ => ⟨rfl, rfl⟩⟩
    · rw [em, e1]; exact ⟨fun _ => ⟨rfl, rfl⟩, fun z => absurd g z⟩
  · refine ⟨nI (yC T / 2 ^ (2 * j) % 4), e_X8_mark (rW_pure (w_X8_mark_0 hA ⟨fun z => absurd z (nI_pos (by omega)), fun _ => ?_⟩)), e_X9_mark (rW_pure (w_X9_mark_0 hB ⟨fun z => absurd z (nI_pos (by omega)), fun _ => ?_⟩))⟩
    · rw [e5, e1]
      refine ⟨fun _ => ⟨rfl, ?_⟩, fun z => absurd (nI_lt hj (by omega)) z⟩
      rw [e52, show (2 : Int32) = nI 2 by decide, pk_mul, bt_two (by omega) hcl]
    · rw [em, e1]
      refine ⟨fun z => absurd z (nI_ge hj (by omega)), fun _ => ⟨vp_in_nI (by omega) (by decide), rfl, ?_⟩⟩
      rw [nI_clamp (by omega), (hM.2.1 j (by omega)).1]
theorem pc_layers (hA : At8 sh R 0) (hB : At9 sh R 169) (hS : S_sheet n I T) (x : Int32) : ∃ (v : Int32), rMet γ l m_X8_layers [.ref 0, .int x] (sh, I, J, R) (sh, I, J, R) (some (.int v)) ∧ rMet γ l m_X9_layers [.ref 169, .int x] (sh, I, J, R) (sh, I, J, R) (some (.int v)) := by
  obtain ⟨hV, hC, hM⟩ := hS
  have hA5 : At5 sh R 5 := (At8_2 hA).2
  have hP := (V_now hV).1
  have hw := hP.2.2.2.1
  have h16 := hV.2.2.1
  have hB5 := (At5_p hA5 (yA T) (by omega)).2
  refine ⟨hgt (nowP T) x, e_X8_layers (rW_pure (w_X8_layers_0 hA ⟨_, ct_packet hA5 h16 hC.1.2.1, hB5, _, ct_heightOf hB5 hP.inn (C_now hC), rfl, rfl⟩)), e_X9_layers (rW_pure (w_X9_layers_0 hB ⟨_, ct_isColumn hB hV hM, fun z => ⟨rfl, ?_⟩, fun z => ?_⟩))⟩
  · rw [hgt_no hV (bz_0.mp z)]
  · rw [bz_0, Classical.not_not] at z
    obtain ⟨c, hc, rfl⟩ := nI_of z.1
    have hcw := (nI_ltI hc (by omega)).mp z.2
    rw [hM.1.2, hgt_at hP hcw]
    exact ⟨_, lay_nI (x := 0) hB hV hM hcw, rfl, rfl⟩
theorem pc_at (hA : At8 sh R 0) (hB : At9 sh R 169) (hS : S_sheet n I T) (x y : Int32) : ∃ (v : Int32), rMet γ l m_X8_at [.ref 0, .int x, .int y] (sh, I, J, R) (sh, I, J, R) (some (.int v)) ∧ rMet γ l m_X9_at [.ref 169, .int x, .int y] (sh, I, J, R) (sh, I, J, R) (some (.int v)) := by
  obtain ⟨hV, hC, hM⟩ := hS
  have hA5 : At5 sh R 5 := (At8_2 hA).2
  have hP := (V_now hV).1
  have hw := hP.2.2.2.1
  have h16 := hV.2.2.1
  have hB5 := (At5_p hA5 (yA T) (by omega)).2
  refine ⟨ptA (nowP T) x y, e_X8_at (rW_pure (w_X8_at_0 hA ⟨_, ct_packet hA5 h16 hC.1.2.1, hB5, _, ct_partAt hB5 hP (C_now hC), rfl, rfl⟩)), e_X9_at (rW_pure (w_X9_at_0 hB ⟨_, ct_isColumn hB hV hM, fun z => ⟨rfl, ?_⟩, fun z => ?_⟩))⟩
  · rw [ptA_col hP]
    rw [bz_0] at z
    by_cases g : x < 0
    · exact Or.inl g
    · exact Or.inr (Int32.not_lt.mp (fun w => z ⟨g, w⟩))
  · rw [hM.1.2]
    exact ⟨_, ct_mptA hB (by omega) hP.2.1 (M_now hM), rfl, rfl⟩
end PRS
