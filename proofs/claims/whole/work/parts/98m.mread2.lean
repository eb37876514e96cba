/-! ===== the model's read ===== -/
def FtM (m s : Nat) : Nat → Nat → Prop := fun b j => Ftr m s b j ∨ (b = m ∧ (j = 17 ∨ j = 18))
def FrM (m s : Nat) : Nat → Nat → Prop := fun b j => FtM m s b j ∨ (b = m ∧ (j = 2 ∨ j = 4 ∨ j = 10 ∨ j = 15 ∨ j = 19)) ∨ b = m + 2 ∨ b = m + 3 ∨ b = m + 4 ∨ b = m + 5
/-- what a read leaves in the model: place and live side; on an answer 0 the rules -/
def MrP (I' : Nat → Nat → Int32) (m : Nat) (f : Nat → Int32) (n s v : Nat) : Prop := (0 < ansA f n → I' m 17 = nI (stA f n (stopK f n)) ∧ I' m 18 = nI v) ∧ (ansA f n = 0 → I' m 17 = -1 ∧ I' m 18 = nI s ∧ ∃ b nr, PrX I' m s b nr (qn (qA f n (stopK f n))))
theorem tok_ne {f : Nat → Int32} {n j : Nat} (hj : j ≤ stopK f n) : ∀ k, k < j → (tokA f n k).1 ≠ 0 := by
  intro k hk hz
  have := (stop_end (f := f) (n := n) (k := k) (by omega) hz).1
  omega
section MRD
variable {γ : rG} {l : Launch} {sh : Nat × (Nat → Nat) × (Nat → Nat)} {I : Nat → Nat → Int32} {J : Nat → Nat → Int64} {R : Nat → Nat → Option Nat} {m n k s v : Nat} {f : Nat → Int32}
abbrev RdQ (sh : Nat × (Nat → Nat) × (Nat → Nat)) (I : Nat → Nat → Int32) (J : Nat → Nat → Int64) (R : Nat → Nat → Option Nat) (m : Nat) (f : Nat → Int32) (n s v : Nat) : rHeap → Option Value → Prop := fun hf w => ∃ I', hf = (sh, I', J, R) ∧ w = some (.int (nI (ansA f n))) ∧ (MrP I' m f n s v ∧ Sm (FtM m s) I I')
/-- a fault on record -/
theorem rd_flt {I1 : Nat → Nat → Int32} (hA : At9 sh R m) (hF : FltM I1 m f n) (h18 : I m 18 = nI v) (hS : Sm (Ftr m s) I I1) : s_X9_read_129 γ l m (sh, I1, J, R) (RdQ sh I J R m f n s v) := by
  have e13 : up I1 m 17 (I1 m 14) m 13 = I1 m 13 := by rw [up_at, if_neg (by omega)]
  refine w_X9_read_129 hA ⟨fun z => absurd z hF.ne.2, fun _ => w_X9_read_145 hA hA ?_⟩
  rw [e13]
  refine ⟨fun z => absurd z hF.ne.2, fun _ => ⟨_, rfl, by rw [hF.1], ⟨fun _ => ⟨?_, ?_⟩, fun z => ?_⟩, (hS.mono (fun b j z => Or.inl z)).up (Or.inr ⟨rfl, Or.inl rfl⟩)⟩⟩
  · rw [up_at, if_pos ⟨rfl, rfl⟩]; exact hF.2.1
  · rw [up_at, if_neg (by omega), hS _ _ (by unfold Ftr; omega)]; exact h18
  · have := hF.2.2.1
    omega
theorem rd_loop (hA : At9 sh R m) (hT : TkT I m f n) (h18 : I m 18 = nI v) : ∀ d k I1, (qn (qA f n k)).length + d = 17 → RdI I1 m f n s k → Sm (Ftr m s) I I1 → s_X9_read_107 γ l m (sh, I1, J, R) (RdQ sh I J R m f n s v) := by
  intro d
  induction d with
  | zero =>
    intro k I1 hd h hS
    obtain ⟨_, _, _, b, nr, _, _, _, _, hP⟩ := h
    have := hP.1.2.2.2
    omega
  | succ d ih =>
    intro k I1 hd h hS
    have h' := h
    obtain ⟨hk, hw, ⟨h13, h12, h11, h19⟩, b, nr, h32, hb, h14, h3, hP⟩ := h
    have hK := (stop_at (f := f) (n := n)).1
    have hT1 : TkT I1 m f n := hT.fr (fun c j z => hS _ _ (by unfold Ftr; omega))
    obtain ⟨kd, t1, t2, t3, t4⟩ := hT1 k hk
    have hok : TkOk (tokA f n k).1 (tokA f n k).2.1 := tkA_ok
    obtain ⟨k40, _, _, _, _, _, _, _, _, _, _, _, _, _, _, k0, _⟩ := KR_f t2 hok
    have j0 := ct_is0 (γ := γ) (l := l) (J := J) (c := 0) hA h13 h11 (by omega) t1 (by omega) (by decide)
    refine w_X9_read_107 hA ⟨fun _ => ⟨_, j0, fun z => ?_, fun z => ?_⟩, fun z => absurd h13 z⟩
    · rw [nzd0] at z
      obtain ⟨I2, c1, c2, c3⟩ := ct_tellRule (γ := γ) (l := l) (J := J) hA hT1 h' (fun y => z (k0.mpr y))
      have hS2 := hS.tr c3
      refine ⟨I2, c1, ?_⟩
      rcases c2 with c2 | ⟨k1, c2, c4⟩
      · exact w_X9_read_107 hA ⟨fun y => absurd y c2.ne.1, fun _ => rd_flt hA c2 h18 hS2⟩
      · exact ih k1 I2 (by omega) c2 hS2
    · rw [nzd0, Classical.not_not] at z
      obtain ⟨g1, g2⟩ := stop_end hk (k0.mp z)
      rw [if_pos hw] at g2
      have e13 : up I1 m 17 (-1) m 13 = 0 := by rw [up_at, if_neg (by omega)]; exact h13
      have e19 : up I1 m 17 (-1) m 19 = nI s := by rw [up_at, if_neg (by omega)]; exact h19
      refine w_X9_read_129 hA ⟨fun _ => w_X9_read_145 hA hA ?_, fun y => absurd (by rw [h13]; decide) y⟩
      rw [e13, e19]
      refine ⟨fun _ => ⟨_, rfl, by rw [g2]; rfl, ⟨fun y => by omega, fun _ => ⟨?_, ?_, b, nr, ?_⟩⟩, ((hS.mono (fun b j y => Or.inl y)).up (Or.inr ⟨rfl, Or.inl rfl⟩)).up (Or.inr ⟨rfl, Or.inr rfl⟩)⟩, fun y => absurd (by decide) y⟩
      · rw [up_at, if_neg (by omega), up_at, if_pos ⟨rfl, rfl⟩]
      · rw [up_at, if_pos ⟨rfl, rfl⟩]
      · rw [← g1]
        exact hP.fr (fun c j y => by rw [up_at, if_neg (by omega), up_at, if_neg (by omega)])
theorem ct_mread (hA : At9 sh R m) (hn : n ≤ 2000) (hX : Tp I m 2 (m + 1) n f) (hB : ByM f n) (hKy : KeysM J m) (h18 : I m 18 = nI v) (hv : v < 2) (hs : s = 1 - v) : ∃ I' J', rMet γ l m_X9_read [.ref m] (sh, I, J, R) (sh, I', J', R) (some (.int (nI (ansA f n)))) ∧ (MrP I' m f n s v ∧ I' m 2 = 0 ∧ Sm (FrM m s) I I' ∧ SmJ (m + 6) J J') := by
  have hK := (stop_at (f := f) (n := n)).1
  -- the bytes are copied
  have copy : ∀ d i I1, i + d = n → I1 m 4 = nI n → (∀ j, j < i → I1 (m + 2) j = f j) → Sm (fun b j => (b = m ∧ j = 4) ∨ b = m + 2) I I1 → s_X9_read_10 γ l m (nI i) (sh, I1, J, R) (fun hf w => ∃ I' J', hf = (sh, I', J', R) ∧ w = some (.int (nI (ansA f n))) ∧ (MrP I' m f n s v ∧ I' m 2 = 0 ∧ Sm (FrM m s) I I' ∧ SmJ (m + 6) J J')) := by
    intro d
    induction d with
    | zero =>
      intro i I1 hi e4 e2 hS
      have ei : i = n := by omega
      subst ei
      have hTx : TxM (up I1 m 2 0) m i f := ⟨hn, by rw [up_at, if_neg (by omega)]; exact e4, fun j hj => by rw [up_at, if_neg (by omega)]; exact e2 j hj⟩
      obtain ⟨I2, J2, c1, c2, c3, c4⟩ := ct_cut (γ := γ) (l := l) hA hTx hB hKy
      refine w_X9_read_10 hA ⟨fun _ => ⟨I2, J2, c1, ?_⟩, fun z => absurd (by rw [e4]; exact nI_le (Nat.le_refl _) (by omega)) z⟩
      have c18 : I2 m 18 = nI v := by
        refine (c3 _ _ (by unfold Fct; omega)).trans ?_
        rw [up_at, if_neg (by omega), hS _ _ (by omega)]
        exact h18
      have e1v : (1 : Int32) - nI v = nI s := by rw [hs, show (1 : Int32) = nI 1 from rfl]; exact pk_sub (by omega)
      have e5 : (500 : Int32) * nI s = nI (500 * s) := by rw [show (500 : Int32) = nI 500 from rfl, pk_mul]
      have hi2 : vp_in (nI s) 2 := vp_in_nI (by omega) (by decide)
      have hc2 : (nI s).toNatClampNeg = s := nI_clamp (by omega)
      have d0 : ∀ d, 1 ≤ d → ¬ (m = m + d) := fun d hd => by omega
      simp only [up_at, d0 8 (by omega), d0 14 (by omega), true_and, false_and, if_false, if_true, c18, e1v, e5, hc2, show ¬ ((18 : Nat) = 15) by decide, show ¬ ((18 : Nat) = 13) by decide, show ¬ ((18 : Nat) = 12) by decide, show ¬ ((18 : Nat) = 11) by decide]
      refine ⟨hi2, hi2, ?_⟩
      generalize hI3 : up (up (up (up (up (up (up (up I2 m 11 0) m 12 0) m 13 0) m 15 0) m 19 (nI s)) (m + 8) s 0) (m + 14) s 0) m 32 (nI (500 * s)) = I3
      have fr3 : ∀ b j, ¬ ((b = m ∧ (j = 11 ∨ j = 12 ∨ j = 13 ∨ j = 15 ∨ j = 19 ∨ j = 32)) ∨ ((b = m + 8 ∨ b = m + 14) ∧ j = s)) → I3 b j = I2 b j := by
        intro b j z
        rw [← hI3, up_at, if_neg (by omega), up_at, if_neg (by omega), up_at, if_neg (by omega), up_at, if_neg (by omega), up_at, if_neg (by omega), up_at, if_neg (by omega), up_at, if_neg (by omega), up_at, if_neg (by omega)]
      have x11 : I3 m 11 = 0 := by rw [← hI3]; simp [up_at]
      have x12 : I3 m 12 = 0 := by rw [← hI3]; simp [up_at]
      have x13 : I3 m 13 = 0 := by rw [← hI3]; simp [up_at]
      have x19 : I3 m 19 = nI s := by rw [← hI3]; simp [up_at]
      have x32 : I3 m 32 = nI (500 * s) := by rw [← hI3]; simp [up_at]
      have x8 : I3 (m + 8) s = 0 := by rw [← hI3]; simp [up_at]
      have x14 : I3 (m + 14) s = 0 := by rw [← hI3]; simp [up_at]
      have hT3 : TkT I3 m f i := TkT.fr (I := I2) (fun j hj => c2 j (by omega) (tok_ne hj)) (fun b j z => fr3 _ _ (by omega))
      have hR3 : RdI I3 m f i s 0 := by
        refine ⟨by omega, rfl, ⟨x13, x12, by rw [x11]; rfl, x19⟩, 500 * s, 0, x32, ⟨by omega, by omega⟩, by rw [x14]; rfl, by omega, ⟨by omega, by omega, by omega, by show 0 ≤ 16; omega⟩, by rw [x8]; rfl, fun r hr => absurd (show r < 0 from hr) (by omega)⟩
      obtain ⟨hf, r, g1, I', g2, g3, g4, g5⟩ := rd_loop (γ := γ) (l := l) (J := J2) (s := s) (v := v) hA hT3 ((fr3 _ _ (by omega)).trans c18) 17 0 I3 rfl hR3 Sm.rf
      refine ⟨hf, r, g1, I', J2, g2, g3, g4, ?_, ?_, c4⟩
      · rw [g5 _ _ (by unfold FtM Ftr; omega), fr3 _ _ (by omega), c3 _ _ (by unfold Fct; omega), up_at, if_pos ⟨rfl, rfl⟩]
      · refine (((hS.mono ?_).up ?_).tr (c3.mono ?_)).tr (Sm.tr (I' := I3) (fun b j z => fr3 b j (fun y => z ?_)) (g5.mono ?_))
        · intro b j z; unfold FrM; omega
        · unfold FrM; omega
        · intro b j z; unfold Fct at z; unfold FrM; omega
        · unfold FrM FtM Ftr; omega
        · intro b j z; exact Or.inl z
    | succ d ih =>
      intro i I1 hi e4 e2 hS
      refine w_X9_read_10 hA ⟨fun z => absurd z (by rw [e4]; exact nI_ge (by omega) (by omega)), fun _ => ?_⟩
      have e1 : I1 (m + 1) i = f i := by rw [hS _ _ (by omega)]; exact hX.2 i (by omega)
      rw [nI_clamp (by omega), e1, nI_1]
      have hb : vp_nar .byte (f i) = f i := by rw [← hB i (by omega), pk_vb]
      rw [hb]
      refine ⟨vp_in_nI (by omega) (by decide), vp_in_nI (by omega) (by decide), ih (i + 1) _ (by omega) (by rw [up_at, if_neg (by omega)]; exact e4) (fun j hj => ?_) (hS.up (Or.inr rfl))⟩
      by_cases hj' : j = i
      · rw [up_at, if_pos ⟨rfl, hj'⟩, hj']
      · rw [up_at, if_neg (by omega)]; exact e2 j (by omega)
  have t0 : s_X9_read_0 γ l m (sh, I, J, R) (fun hf w => ∃ I' J', hf = (sh, I', J', R) ∧ w = some (.int (nI (ansA f n))) ∧ (MrP I' m f n s v ∧ I' m 2 = 0 ∧ Sm (FrM m s) I I' ∧ SmJ (m + 6) J J')) :=
    w_X9_read_0 hA (copy n 0 _ (by omega) (by rw [up_at, if_pos ⟨rfl, rfl⟩]; exact hX.1) (fun j hj => absurd hj (by omega)) (Sm.rf.up (Or.inl ⟨rfl, rfl⟩)))
  obtain ⟨I', J', q1, q2⟩ := rW_exJ t0
  exact ⟨I', J', e_X9_read q1, q2⟩
end MRD
