/-! ===== the model: goesThrough, one act ===== -/
def BsG (I : Nat → Nat → Int32) (m N : Nat) (F : Fnd) (D : Nat) : Prop := I m 39 = nI N ∧ FdM I m N F ∧ I m 64 = nI (ckN N F) ∧ I m 65 = nI (crF N F) ∧ I m 68 = nI D
def NdG (I : Nat → Nat → Int32) (m N t : Nat) (e : En) : Prop := PkM I m (17 + t) (unP N e.1.2) ∧ I (m + 43) t = nI e.1.1 ∧ LsA I (m + 44) e.2.2
def EnG (N t : Nat) (e : En) : Prop := VNd N e.1.1 e.1.2 ∧ e.2.2.length = t ∧ e.2.1 = 1
def Fgt (m t : Nat) : Nat → Nat → Prop := fun b j => Frw m b j ∨ (b = m + 43 ∧ t < j) ∨ (b = m + 44 ∧ t ≤ j) ∨ (b = m + 25 ∧ 17 + t < j) ∨ ((b = m + 26 ∨ b = m + 27 ∨ b = m + 28) ∧ 8 * (17 + t) + 8 ≤ j)
theorem Fgt_up {m t b j : Nat} (h : Fgt m (t + 1) b j) : Fgt m t b j := by
  rcases h with h | h
  · exact Or.inl h
  · exact Or.inr (by omega)
theorem BsG.fr {I I' : Nat → Nat → Int32} {m N D t : Nat} {F : Fnd} (h : BsG I m N F D) (hq : Sm (Fgt m t) I I') : BsG I' m N F D := by
  obtain ⟨h1, h2, h3, h4, h5⟩ := h
  exact ⟨(hq _ _ (by unfold Fgt Frw Fft; omega)).trans h1, h2.loc (fun b j z => hq _ _ (by unfold Fgt Frw Fft; omega)), (hq _ _ (by unfold Fgt Frw Fft; omega)).trans h3, (hq _ _ (by unfold Fgt Frw Fft; omega)).trans h4, (hq _ _ (by unfold Fgt Frw Fft; omega)).trans h5⟩
theorem NdG.fr {I I' : Nat → Nat → Int32} {m N t : Nat} {e : En} (h : NdG I m N t e) (he : EnG N t e) (hq : Sm (Fgt m t) I I') : NdG I' m N t e := by
  obtain ⟨h1, h2, h3⟩ := h
  refine ⟨h1.loc he.1.2.2.2.1 (hq _ _ (by unfold Fgt Frw Fft; omega)) (hq _ _ (by unfold Fgt Frw Fft; omega)) (fun b j z1 z2 z3 => hq _ _ (by unfold Fgt Frw Fft; omega)), (hq _ _ (by unfold Fgt Frw Fft; omega)).trans h2, fun i hi => (hq _ _ ?_).trans (h3 i hi)⟩
  have := he.2.1
  unfold Fgt Frw Fft
  omega
theorem act_d {x sd g : Nat} (hx : x ≤ 8) (hsd : sd < 2) (hg : g ≤ 8) : nI (100 * x + 10 * sd + g) / 100 = nI x ∧ nI (100 * x + 10 * sd + g) / 10 = nI (10 * x + sd) ∧ nI (10 * x + sd) - nI (10 * x + sd) / 10 * 10 = nI sd ∧ nI (100 * x + 10 * sd + g) - nI (10 * x + sd) * 10 = nI g := by
  have e10 : (10 : Int32) = nI 10 := rfl
  have e100 : (100 : Int32) = nI 100 := rfl
  refine ⟨?_, ?_, ?_, ?_⟩
  · rw [e100, pk_div (by omega) (by decide) (by decide), show (100 * x + 10 * sd + g) / 100 = x by omega]
  · rw [e10, pk_div (by omega) (by decide) (by decide), show (100 * x + 10 * sd + g) / 10 = 10 * x + sd by omega]
  · rw [e10, pk_rem (by omega) (by decide) (by decide), show (10 * x + sd) % 10 = sd by omega]
  · rw [e10, pk_mul, pk_sub (by omega), show 100 * x + 10 * sd + g - (10 * x + sd) * 10 = g by omega]
/-- a node is gone through: from its first act to the step back -/
def Vis (γ : rG) (l : Launch) (sh : Nat × (Nat → Nat) × (Nat → Nat)) (J : Nat → Nat → Int64) (R : Nat → Nat → Option Nat) (m N : Nat) (F : Fnd) (D r : Nat) : Prop := ∀ (Q : rHeap → Option Value → Prop) (t : Nat) (e : En) (X : List En) (I1 : Nat → Nat → Int32), t + r = D → EnG N t e → BsG I1 m N F D → NdG I1 m N t e → ReM I1 m N F X → I1 (m + 44) t = 99 → (∀ I2, Sm (Fgt m t) I1 I2 → ReM I2 m N F (X ++ subE N r e) → s_X9_goesThrough_55 γ l m (nI D) (nI t + -1) (sh, I2, J, R) Q) → s_X9_goesThrough_55 γ l m (nI D) (nI t) (sh, I1, J, R) Q
section GON
variable {γ : rG} {l : Launch} {sh : Nat × (Nat → Nat) × (Nat → Nat)} {J : Nat → Nat → Int64} {R : Nat → Nat → Option Nat} {m N D r t x sd g : Nat} {F : Fnd} {Q : rHeap → Option Value → Prop} {e : En} {X : List En}
theorem gt_one {I1 : Nat → Nat → Int32} (hA : At9 sh R m) (hV : r = 0 ∨ Vis γ l sh J R m N F D r) (hD : t + 1 + r = D) (hD3 : D ≤ 3) (he : EnG N t e) (hB : BsG I1 m N F D) (hN : NdG I1 m N t e) (hR : ReM I1 m N F X) (hx1 : 1 ≤ x) (hx : x < pW (unP N e.1.2)) (hsd : sd < 2) (hg : g ≤ mosK N e.1.2)
    (K : ∀ I2, I2 (m + 44) t = nI (100 * x + 10 * sd + g) → Sm (Fgt m t) I1 I2 → ReM I2 m N F (X ++ ((kid1 N e.1.1 e.1.2 x sd g).map (mkE e)).flatMap (subE N r)) → s_X9_goesThrough_55 γ l m (nI D) (nI t) (sh, I2, J, R) Q) :
    s_X9_goesThrough_91 γ l m (nI D) (nI t) (nI (17 + t)) (nI (100 * x + 10 * sd + g)) (sh, I1, J, R) Q := by
  have hVN := he.1
  have hb := hVN.b
  have hg8 := mosK_8 hVN
  have hW8 : pW (unP N e.1.2) ≤ 8 := hVN.2.2.2.2.2.1
  obtain ⟨b1, b2, b3, b4, b5, b6⟩ := sk_31 N F hb.2.2.2.2
  obtain ⟨d1, d2, d3, d4⟩ := act_d (x := x) (sd := sd) (g := g) (by omega) hsd (by omega)
  -- the act is noted
  generalize hIa : up I1 (m + 44) t (nI (100 * x + 10 * sd + g)) = Ia
  have fra : ∀ b j, ¬ (b = m + 44 ∧ j = t) → Ia b j = I1 b j := fun b j z => by rw [← hIa, up_at, if_neg z]
  have xa : Ia (m + 44) t = nI (100 * x + 10 * sd + g) := by rw [← hIa, up_at, if_pos ⟨rfl, rfl⟩]
  have sma : Sm (Fgt m t) I1 Ia := fun b j z => fra b j (fun y => z (by unfold Fgt; omega))
  have hNa : NdG Ia m N t e := hN.fr he sma
  have hBa : BsG Ia m N F D := hB.fr sma
  -- the turn
  have hPV := kidP_V (sd := sd) (d := g) hVN hx1 hx
  have hl8 : levD g ≤ 8 := by unfold levD; split <;> omega
  have fin : ∀ how, hwL how (levD g) → s_X9_goesThrough_176 γ l m (nI D) (nI t) (nI (17 + t)) (nI g) how (nz (decide (sd = 0))) (nI x) (nI (17 + t + 1)) (nI (17 + t)) m (nI e.1.1) (sh, Ia, J, R) Q := by
    intro how hh
    obtain ⟨I2, f1, f2, f3⟩ := ct_folds (γ := γ) (l := l) (J := J) (left := decide (sd = 0)) (t := 17 + t + 1) hA (show 17 + t < 22 by omega) (by omega) (by omega) hVN.2.2 hx1 hx hNa.1 hh
    have f2' : PkM I2 m (17 + t + 1) (kidP N e.1.2 x sd g) := f2
    have ev : crM (unP N e.1.2) x (decide (sd = 0)) (decide (0 < levD g)) (pN (unP N e.1.2) - 1) = nI (crN (unP N e.1.2) x (decide (sd = 0)) (decide (0 < levD g)) (N - 1)) := crM_N _ (by show N - 1 ≤ 7; omega)
    rw [ev] at f1
    have hcr : crN (unP N e.1.2) x (decide (sd = 0)) (decide (0 < levD g)) (N - 1) < 2 ^ 14 := Nat.lt_of_lt_of_le (crN_lt (N - 1)) (Nat.pow_le_pow_right (by omega) (by omega))
    have sm2 : Sm (Fgt m t) I1 I2 := sma.tr (f3.mono (fun b j z => by unfold Ft at z; unfold Fgt; omega))
    have x2 : I2 (m + 44) t = nI (100 * x + 10 * sd + g) := by rw [f3 _ _ (by unfold Ft; omega)]; exact xa
    have hB2 : BsG I2 m N F D := hB.fr sm2
    have hR2 : ReM I2 m N F X := hR.fr (fun b j z => by rw [f3 _ _ (by unfold Frw Fft at z; unfold Ft; omega)]; exact fra _ _ (by unfold Frw Fft at z; omega))
    have eM : nI e.1.1 ||| nI (crN (unP N e.1.2) x (decide (sd = 0)) (decide (0 < levD g)) (N - 1)) = nI (kidM N e.1.1 e.1.2 x sd g) := bt_or (by omega) (by omega)
    -- it stands: go on with it
    have on : kidB N e.1.2 x sd g = false → s_X9_goesThrough_198 γ l m (nI D) (nI t) (nI (17 + t)) (nI (kidM N e.1.1 e.1.2 x sd g)) (sh, I2, J, R) Q := by
      intro hbd
      have ek : kid1 N e.1.1 e.1.2 x sd g = [(100 * x + 10 * sd + g, kidM N e.1.1 e.1.2 x sd g, kidK N e.1.2 x sd g)] := by unfold kid1; rw [hbd]; rfl
      generalize hee : mkE e (100 * x + 10 * sd + g, kidM N e.1.1 e.1.2 x sd g, kidK N e.1.2 x sd g) = e'
      have eK : ((kid1 N e.1.1 e.1.2 x sd g).map (mkE e)).flatMap (subE N r) = subE N r e' := by rw [ek, ← hee]; simp
      rw [eK] at K
      have hVN' : VNd N e'.1.1 e'.1.2 := by rw [← hee]; exact kid_V hVN hx1 hx
      have hb' := hVN'.b
      have e11 : e'.1.1 = kidM N e.1.1 e.1.2 x sd g := by rw [← hee]; rfl
      have e12 : e'.1.2 = kidK N e.1.2 x sd g := by rw [← hee]; rfl
      have eac : e'.2.2 = e.2.2 ++ [100 * x + 10 * sd + g] := by rw [← hee]; rfl
      have ew : e'.2.1 = 1 := by rw [← hee]; exact he.2.2
      have hPk : PkM I2 m (17 + t + 1) (unP N e'.1.2) := by rw [e12]; exact (kid_E hVN hx1 hx).M f2'
      have hls : LsA I2 (m + 44) e'.2.2 := by
        rw [eac]
        intro i hi
        rw [List.length_append, List.length_singleton, he.2.1] at hi
        by_cases z : i = t
        · subst z
          rw [x2]
          congr 1
          unfold List.getD
          rw [List.getElem?_append_right (by have := he.2.1; omega), he.2.1]
          simp
        · rw [f3 _ _ (by unfold Ft; omega), hNa.2.2 i (by have := he.2.1; omega)]
          congr 1
          unfold List.getD
          rw [List.getElem?_append_left (by have := he.2.1; omega)]
      have hal : e'.2.2.length = t + 1 := by rw [eac, List.length_append, he.2.1]; rfl
      have eo : nI (kidM N e.1.1 e.1.2 x sd g) &&& nI (ckN N F) = nI (onm N F e') := by rw [← e11]; exact bt_and (by omega) (by omega)
      have ho := onm_14 (F := F) hb'.2.2.2.2 e'
      refine w_X9_goesThrough_198 hA ?_
      rw [hB2.2.2.1, hB2.2.2.2.1, eo, bt_not (by omega) (by omega), nI_1, nI_1]
      refine ⟨fun z => ⟨fun y => ?_, fun y => ?_⟩, fun z => K I2 x2 sm2 (hR2.skip (fun y hy => sub_bad hy z))⟩
      · have y := (nI_eq (by omega) (by omega)).mp y
        have er : r = 0 := by omega
        subst er
        rw [← e11]
        obtain ⟨I3, q1, q2, q3, q4⟩ := ct_rowEnds (γ := γ) (l := l) (J := J) (acts := e'.2.2) (F := F) (N := N) hA (show 17 + t + 1 < 22 by omega) hb'.2.2.2.2 rfl hVN'.2.2 ⟨hB2.1, hB2.2.1, ⟨by rw [hB2.2.2.2.2, hal, y], by omega, hls⟩, hPk⟩ hB2.2.2.1 hB2.2.2.2.1 hb'.1 hR2.1 hR2.2
        exact ⟨I3, q1, K I3 ((q4 _ _ (by unfold Frw Fft; omega)).trans x2) (sm2.tr (q4.mono (fun b j w => Or.inl w))) (ReM.push ew z q2 q3)⟩
      · have y' : t + 1 ≠ D := fun w => y (by rw [w])
        rcases hV with hr0 | hV
        · exact absurd (by omega) y'
        · rw [nI_clamp (by omega)]
          have hin : vp_in (nI (t + 1)) 4 := vp_in_nI (by omega) (by decide)
          generalize hI3 : up (up I2 (m + 43) (t + 1) (nI (kidM N e.1.1 e.1.2 x sd g))) (m + 44) (t + 1) 99 = I3
          have fr3 : ∀ b j, ¬ ((b = m + 43 ∨ b = m + 44) ∧ j = t + 1) → I3 b j = I2 b j := fun b j w => by rw [← hI3, up_at, if_neg (by omega), up_at, if_neg (by omega)]
          have sm3 : Sm (Fgt m t) I1 I3 := sm2.tr (fun b j w => fr3 b j (fun v => w (by unfold Fgt; omega)))
          refine ⟨hin, hin, hV Q (t + 1) e' X I3 (by omega) ⟨hVN', hal, ew⟩ (hB.fr sm3) ⟨hPk.loc hVN'.2.2.2.1 (fr3 _ _ (by omega)) (fr3 _ _ (by omega)) (fun b j w1 w2 w3 => fr3 _ _ (by omega)), ?_, fun i hi => ?_⟩ (hR2.fr (fun b j w => fr3 _ _ (by unfold Frw Fft at w; omega))) ?_ (fun I4 h4 h5 => ?_)⟩
          · rw [← hI3, up_at, if_neg (by omega), up_at, if_pos ⟨rfl, rfl⟩, e11]
          · rw [fr3 _ _ (by omega)]; exact hls i hi
          · rw [← hI3, up_at, if_pos ⟨rfl, rfl⟩]
          · rw [pk_m1]
            exact K I4 ((h4 _ _ (by unfold Fgt Frw Fft; omega)).trans ((fr3 _ _ (by omega)).trans x2)) (sm3.tr (h4.mono (fun b j w => Fgt_up w))) h5
    refine w_X9_goesThrough_176 hA hA ⟨I2, _, f1, ?_⟩
    rw [eM, show (1 : Int32) = nI 1 from rfl, nI_leI (by omega) (by decide)]
    refine ⟨fun z => on (by unfold kidB; rw [decide_eq_false (by omega)]; rfl), fun z => ?_⟩
    have mb := ct_mayBe (γ := γ) (l := l) (J := J) hA (show 17 + t + 1 < 22 by omega) hPV f2'
    rw [nI_add]
    refine ⟨_, mb, fun y => ?_, fun y => ?_⟩
    · rw [bz_0, Classical.not_not, ← pass_bad hPV, ← passB_iff] at y
      refine K I2 x2 sm2 ?_
      have ek : kid1 N e.1.1 e.1.2 x sd g = [] := by unfold kid1 kidB; rw [decide_eq_true (by omega), y]; rfl
      rw [ek]
      have : X ++ (([] : List (Nat × Nat × Nat)).map (mkE e)).flatMap (subE N r) = X := by simp
      rw [this]
      exact hR2
    · rw [bz_0, Classical.not_not, ← pass_bad hPV, ← passB_iff] at y
      exact on (by unfold kidB; rw [decide_eq_true (by omega)]; simpa using y)
  have at161 : s_X9_goesThrough_161 γ l m (nI D) (nI t) (nI (17 + t)) (nI g) (nz (decide (sd = 0))) (nI x) (nI (17 + t + 1)) (nI (17 + t)) m (nI e.1.1) (sh, Ia, J, R) Q := by
    refine w_X9_goesThrough_161 hA hA ⟨fun z => ?_, fun z => ?_⟩
    · rw [show (2 : Int32) = nI 2 from rfl, nI_leI (by decide) (by omega)] at z
      rw [nI_1]
      refine fin _ (Or.inr (Or.inr ⟨hl8, ?_⟩))
      congr 1
      unfold levD
      rw [if_neg (by omega)]
      omega
    · rw [show (2 : Int32) = nI 2 from rfl, nI_leI (by decide) (by omega)] at z
      have : g = 0 ∨ g = 1 := by omega
      rcases this with e0 | e1
      · subst e0; exact fin _ (Or.inl ⟨rfl, rfl⟩)
      · subst e1; exact fin _ (Or.inr (Or.inl ⟨rfl, rfl⟩))
  refine w_X9_goesThrough_91 hA ⟨fun z => absurd z (nI_ne0 (by omega) (by omega)), fun _ => ⟨vp_in_nI (by omega) (by decide), ?_⟩⟩
  have em : up I1 (m + 44) t (nI (100 * x + 10 * sd + g)) (m + 43) t = nI e.1.1 := by rw [up_at, if_neg (by omega)]; exact hN.2.1
  rw [nI_clamp (by omega), nI_clamp (by omega), hN.1.2.1, d1, d2, d3, d4, em, hIa, nI_1]
  have hin : vp_in (nI t) 4 := vp_in_nI (by omega) (by decide)
  refine ⟨fun _ => ⟨hin, hin, fun z => ?_, fun z => ?_⟩, fun z => absurd (nI_le (a := 2) (by omega) (by omega)) z⟩
  · have z := (nI_eq (b := 0) (by omega) (by decide)).mp z
    rw [decide_eq_true z] at at161
    exact at161
  · have z : ¬ sd = 0 := fun y => z (by rw [y]; rfl)
    rw [decide_eq_false z] at at161
    exact at161
end GON
