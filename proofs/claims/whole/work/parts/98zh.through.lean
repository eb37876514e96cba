/-! ===== the model: goesThrough ===== -/
def flE (N r : Nat) (e : En) (Y : List (Nat × Nat × Nat)) : List En := (Y.map (mkE e)).flatMap (subE N r)
theorem flE_app (N r : Nat) (e : En) (A C : List (Nat × Nat × Nat)) : flE N r e (A ++ C) = flE N r e A ++ flE N r e C := by unfold flE; rw [List.map_append, List.flatMap_append]
section GTR
variable {γ : rG} {l : Launch} {sh : Nat × (Nat → Nat) × (Nat → Nat)} {I : Nat → Nat → Int32} {J : Nat → Nat → Int64} {R : Nat → Nat → Option Nat} {m N D r t x sd g : Nat} {F : Fnd} {Q : rHeap → Option Value → Prop} {e : En} {X : List En}
/-- behind an act: the next one -/
theorem gt_next {I1 : Nat → Nat → Int32} (hA : At9 sh R m) (ht : t < 4) (he : EnG N t e) (hN : NdG I1 m N t e) (hx1 : 1 ≤ x) (hx : x < pW (unP N e.1.2)) (hsd : sd < 2) (hg : g ≤ mosK N e.1.2) (h44 : I1 (m + 44) t = nI (100 * x + 10 * sd + g)) (K : s_X9_goesThrough_91 γ l m (nI D) (nI t) (nI (17 + t)) (nI (nxA (pW (unP N e.1.2)) (mosK N e.1.2) x sd g)) (sh, I1, J, R) Q) : s_X9_goesThrough_55 γ l m (nI D) (nI t) (sh, I1, J, R) Q := by
  have hg8 := mosK_8 he.1
  have hW8 : pW (unP N e.1.2) ≤ 8 := he.1.2.2.2.2.2.1
  have e17 : (17 : Int32) + nI t = nI (17 + t) := by rw [show (17 : Int32) = nI 17 from rfl, nI_add]
  have ma := ct_after (γ := γ) (l := l) (J := J) (q := 17 + t) hA (by omega) he.1.2.2 hN.1 hx hsd hg (mosK_1 he.1)
  refine w_X9_goesThrough_55 hA ⟨fun z => absurd z (nI_pos (by omega)), fun _ => ⟨vp_in_nI ht (by decide), ?_⟩⟩
  rw [nI_clamp (by omega), h44, e17]
  refine ⟨fun z => absurd ((nI_eq (b := 99) (by omega) (by decide)).mp z) (by omega), fun _ => ⟨vp_in_nI ht (by decide), _, ma, K⟩⟩
theorem gt_D (hA : At9 sh R m) (hV : r = 0 ∨ Vis γ l sh J R m N F D r) (hD : t + 1 + r = D) (hD3 : D ≤ 3) (he : EnG N t e) (hB : BsG I m N F D) (hN : NdG I m N t e) (hx1 : 1 ≤ x) (hx : x < pW (unP N e.1.2)) (hsd : sd < 2) (Y : List (Nat × Nat × Nat))
    (K : ∀ I2, Sm (Fgt m t) I I2 → ReM I2 m N F (X ++ flE N r e (Y ++ kD N e.1.1 e.1.2 x sd (mosK N e.1.2 + 1))) → s_X9_goesThrough_91 γ l m (nI D) (nI t) (nI (17 + t)) (nI (nxA (pW (unP N e.1.2)) (mosK N e.1.2) x sd (mosK N e.1.2))) (sh, I2, J, R) Q) :
    ∀ j g I1, g + j = mosK N e.1.2 → Sm (Fgt m t) I I1 → ReM I1 m N F (X ++ flE N r e (Y ++ kD N e.1.1 e.1.2 x sd g)) → s_X9_goesThrough_91 γ l m (nI D) (nI t) (nI (17 + t)) (nI (100 * x + 10 * sd + g)) (sh, I1, J, R) Q := by
  intro j
  induction j with
  | zero =>
    intro g I1 hg hS hR
    have eg : g = mosK N e.1.2 := by omega
    subst eg
    refine gt_one hA hV hD hD3 he (hB.fr hS) (hN.fr he hS) hR hx1 hx hsd (Nat.le_refl _) (fun I2 h1 h2 h3 => ?_)
    have hS2 := hS.tr h2
    refine gt_next hA (by omega) he (hN.fr he hS2) hx1 hx hsd (Nat.le_refl _) h1 (K I2 hS2 ?_)
    rw [List.append_assoc] at h3
    simp only [kD]
    rw [← List.append_assoc, flE_app]
    exact h3
  | succ j ih =>
    intro g I1 hg hS hR
    refine gt_one hA hV hD hD3 he (hB.fr hS) (hN.fr he hS) hR hx1 hx hsd (by omega) (fun I2 h1 h2 h3 => ?_)
    have hS2 := hS.tr h2
    refine gt_next hA (by omega) he (hN.fr he hS2) hx1 hx hsd (by omega) h1 ?_
    have en : nxA (pW (unP N e.1.2)) (mosK N e.1.2) x sd g = 100 * x + 10 * sd + (g + 1) := by unfold nxA; rw [if_pos (by omega)]
    rw [en]
    refine ih (g + 1) I2 (by omega) hS2 ?_
    rw [List.append_assoc] at h3
    simp only [kD]
    rw [← List.append_assoc, flE_app]
    exact h3
theorem gt_X (hA : At9 sh R m) (hV : r = 0 ∨ Vis γ l sh J R m N F D r) (hD : t + 1 + r = D) (hD3 : D ≤ 3) (he : EnG N t e) (hB : BsG I m N F D) (hN : NdG I m N t e)
    (K : ∀ I2, Sm (Fgt m t) I I2 → ReM I2 m N F (X ++ subE N (r + 1) e) → s_X9_goesThrough_55 γ l m (nI D) (nI t + -1) (sh, I2, J, R) Q) :
    ∀ j x I1, x + j + 1 = pW (unP N e.1.2) → 1 ≤ x → Sm (Fgt m t) I I1 → ReM I1 m N F (X ++ flE N r e (kX N e.1.1 e.1.2 (x - 1))) → s_X9_goesThrough_91 γ l m (nI D) (nI t) (nI (17 + t)) (nI (100 * x + 10 * 0 + 0)) (sh, I1, J, R) Q := by
  intro j
  induction j with
  | zero =>
    intro x I1 hx hx1 hS hR
    refine gt_D (sd := 0) hA hV hD hD3 he hB hN hx1 (by omega) (by decide) (kX N e.1.1 e.1.2 (x - 1)) (fun I2 h1 h2 => ?_) (mosK N e.1.2) 0 I1 (by omega) hS (by simp only [kD, List.append_nil]; exact hR)
    have en : nxA (pW (unP N e.1.2)) (mosK N e.1.2) x 0 (mosK N e.1.2) = 100 * x + 10 * 1 + 0 := by unfold nxA; rw [if_neg (by omega), if_pos rfl]
    rw [en]
    refine gt_D (sd := 1) hA hV hD hD3 he hB hN hx1 (by omega) (by decide) (kX N e.1.1 e.1.2 (x - 1) ++ kD N e.1.1 e.1.2 x 0 (mosK N e.1.2 + 1)) (fun I3 h3 h4 => ?_) (mosK N e.1.2) 0 I2 (by omega) h1 (by simp only [kD, List.append_nil]; exact h2)
    have en2 : nxA (pW (unP N e.1.2)) (mosK N e.1.2) x 1 (mosK N e.1.2) = 0 := by unfold nxA; rw [if_neg (by omega), if_neg (by decide), if_neg (by omega)]
    rw [en2]
    refine w_X9_goesThrough_91 hA ⟨fun _ => K I3 h3 ?_, fun z => absurd rfl z⟩
    have ex : kX N e.1.1 e.1.2 (x - 1) ++ kD N e.1.1 e.1.2 x 0 (mosK N e.1.2 + 1) ++ kD N e.1.1 e.1.2 x 1 (mosK N e.1.2 + 1) = kidsL N e.1.1 e.1.2 := by
      unfold kidsL
      rw [show pW (unP N e.1.2) - 1 = (x - 1) + 1 by omega]
      simp only [kX]
      rw [show x - 1 + 1 = x by omega]
      simp [kS]
    rw [ex] at h4
    exact h4
  | succ j ih =>
    intro x I1 hx hx1 hS hR
    refine gt_D (sd := 0) hA hV hD hD3 he hB hN hx1 (by omega) (by decide) (kX N e.1.1 e.1.2 (x - 1)) (fun I2 h1 h2 => ?_) (mosK N e.1.2) 0 I1 (by omega) hS (by simp only [kD, List.append_nil]; exact hR)
    have en : nxA (pW (unP N e.1.2)) (mosK N e.1.2) x 0 (mosK N e.1.2) = 100 * x + 10 * 1 + 0 := by unfold nxA; rw [if_neg (by omega), if_pos rfl]
    rw [en]
    refine gt_D (sd := 1) hA hV hD hD3 he hB hN hx1 (by omega) (by decide) (kX N e.1.1 e.1.2 (x - 1) ++ kD N e.1.1 e.1.2 x 0 (mosK N e.1.2 + 1)) (fun I3 h3 h4 => ?_) (mosK N e.1.2) 0 I2 (by omega) h1 (by simp only [kD, List.append_nil]; exact h2)
    have en2 : nxA (pW (unP N e.1.2)) (mosK N e.1.2) x 1 (mosK N e.1.2) = 100 * (x + 1) + 10 * 0 + 0 := by unfold nxA; rw [if_neg (by omega), if_neg (by decide), if_pos (by omega)]; omega
    rw [en2]
    refine ih (x + 1) I3 (by omega) (by omega) h3 ?_
    have ex : kX N e.1.1 e.1.2 (x - 1) ++ kD N e.1.1 e.1.2 x 0 (mosK N e.1.2 + 1) ++ kD N e.1.1 e.1.2 x 1 (mosK N e.1.2 + 1) = kX N e.1.1 e.1.2 (x + 1 - 1) := by
      rw [show x + 1 - 1 = (x - 1) + 1 by omega]
      simp only [kX]
      rw [show x - 1 + 1 = x by omega]
      simp [kS]
    rw [ex] at h4
    exact h4
theorem vis_all (hA : At9 sh R m) (hD3 : D ≤ 3) : ∀ r, Vis γ l sh J R m N F D (r + 1) := by
  intro r
  induction r with
  | zero =>
    intro Q t e X I1 hD he hB hN hR h99 K
    have hW8 : pW (unP N e.1.2) ≤ 8 := he.1.2.2.2.2.2.1
    have hW1 : 1 ≤ pW (unP N e.1.2) := he.1.2.2.2.2.1
    have e17 : (17 : Int32) + nI t = nI (17 + t) := by rw [show (17 : Int32) = nI 17 from rfl, nI_add]
    refine w_X9_goesThrough_55 hA ⟨fun z => absurd z (nI_pos (by omega)), fun _ => ⟨vp_in_nI (by omega) (by decide), ?_⟩⟩
    rw [nI_clamp (by omega), h99, e17]
    refine ⟨fun _ => ?_, fun z => absurd rfl z⟩
    by_cases hW : pW (unP N e.1.2) = 1
    · refine w_X9_goesThrough_91 hA ⟨fun z => absurd z (by decide), fun _ => ⟨vp_in_nI (by omega) (by decide), ?_⟩⟩
      rw [nI_clamp (by omega), hN.1.2.1, hW]
      refine ⟨fun z => absurd z (by decide), fun _ => K I1 Sm.rf ?_⟩
      have e0 : subE N (0 + 1) e = [] := by
        show ((kidsL N e.1.1 e.1.2).map (mkE e)).flatMap _ = []
        unfold kidsL
        rw [hW]
        rfl
      rw [e0, List.append_nil]
      exact hR
    · exact gt_X (r := 0) hA (Or.inl rfl) (by omega) hD3 he hB hN K (pW (unP N e.1.2) - 2) 1 I1 (by omega) (Nat.le_refl _) Sm.rf (by
        have e9 : ∀ q, X ++ flE N q e (kX N e.1.1 e.1.2 (1 - 1)) = X := fun q => by simp [flE, kX]
        rw [e9]; exact hR)
  | succ r ih =>
    intro Q t e X I1 hD he hB hN hR h99 K
    have hW8 : pW (unP N e.1.2) ≤ 8 := he.1.2.2.2.2.2.1
    have hW1 : 1 ≤ pW (unP N e.1.2) := he.1.2.2.2.2.1
    have e17 : (17 : Int32) + nI t = nI (17 + t) := by rw [show (17 : Int32) = nI 17 from rfl, nI_add]
    refine w_X9_goesThrough_55 hA ⟨fun z => absurd z (nI_pos (by omega)), fun _ => ⟨vp_in_nI (by omega) (by decide), ?_⟩⟩
    rw [nI_clamp (by omega), h99, e17]
    refine ⟨fun _ => ?_, fun z => absurd rfl z⟩
    by_cases hW : pW (unP N e.1.2) = 1
    · refine w_X9_goesThrough_91 hA ⟨fun z => absurd z (by decide), fun _ => ⟨vp_in_nI (by omega) (by decide), ?_⟩⟩
      rw [nI_clamp (by omega), hN.1.2.1, hW]
      refine ⟨fun z => absurd z (by decide), fun _ => K I1 Sm.rf ?_⟩
      have e0 : subE N (r + 1 + 1) e = [] := by
        show ((kidsL N e.1.1 e.1.2).map (mkE e)).flatMap _ = []
        unfold kidsL
        rw [hW]
        rfl
      rw [e0, List.append_nil]
      exact hR
    · exact gt_X (r := r + 1) hA (Or.inr ih) (by omega) hD3 he hB hN K (pW (unP N e.1.2) - 2) 1 I1 (by omega) (Nat.le_refl _) Sm.rf (by
        have e9 : ∀ q, X ++ flE N q e (kX N e.1.1 e.1.2 (1 - 1)) = X := fun q => by simp [flE, kX]
        rw [e9]; exact hR)
def Fgo (m : Nat) : Nat → Nat → Prop := fun b j => Frw m b j ∨ (b = m ∧ j = 68) ∨ b = m + 43 ∨ b = m + 44 ∨ (b = m + 25 ∧ 17 ≤ j) ∨ ((b = m + 26 ∨ b = m + 27 ∨ b = m + 28) ∧ 136 ≤ j)
theorem ct_goesThrough (hA : At9 sh R m) (h : 2 ≤ N ∧ N ≤ 8) (hD3 : D ≤ 3) (h39 : I m 39 = nI N) (hM : FdM I m N F) (h64 : I m 64 = nI (ckN N F)) (h65 : I m 65 = nI (crF N F)) (hR : ReM I m N F X) : ∃ I', rMet γ l m_X9_goesThrough [.ref m, .int (nI D)] (sh, I, J, R) (sh, I', J, R) none ∧ (ReM I' m N F (X ++ Sq N D) ∧ Sm (Fgo m) I I') := by
  obtain ⟨I1, f1, f2, f3⟩ := ct_mflatq (γ := γ) (l := l) (J := J) (q := 17) hA (by decide) h.2 h39
  have hVf := flat_V h
  obtain ⟨B, hT⟩ := told_all h.1 h.2
  have hrV := root_V h hT
  have heG : EnG N 0 (rootE N) := ⟨hrV.1, rfl, rfl⟩
  have e0 : (0 : Int32).toNatClampNeg = 0 := by decide
  have e17 : (17 : Int32).toNatClampNeg = 17 := by decide
  suffices hh : s_X9_goesThrough_0 γ l m (nI D) (sh, I, J, R) (fun hf v => ∃ I', hf = (sh, I', J, R) ∧ v = none ∧ (ReM I' m N F (X ++ Sq N D) ∧ Sm (Fgo m) I I')) by
    obtain ⟨I', q1, q2⟩ := rW_ex hh
    exact ⟨I', e_X9_goesThrough q1, q2⟩
  refine w_X9_goesThrough_0 hA ⟨I1, f1, vp_in_nI (show 0 < 4 by decide) (by decide), ?_⟩
  rw [e0, e17]
  generalize hI2 : up (up I1 (m + 43) 0 0) m 68 (nI D) = I2
  have fr2 : ∀ b j, ¬ ((b = m + 43 ∧ j = 0) ∨ (b = m ∧ j = 68)) → I2 b j = I1 b j := fun b j z => by rw [← hI2, up_at, if_neg (by omega), up_at, if_neg (by omega)]
  have sm2 : Sm (Fgo m) I I2 := fun b j z => by
    rw [fr2 b j (fun y => z (by unfold Fgo; omega))]
    exact f3 b j (fun y => z (by unfold Ft at y; unfold Fgo; omega))
  have hPk : PkM I2 m 17 (unP N (rootE N).1.2) := (un_E hVf).M (f2.loc hVf.2.1 (fr2 _ _ (by omega)) (fr2 _ _ (by omega)) (fun b j z1 z2 z3 => fr2 _ _ (by omega)))
  have x39 : I2 m 39 = nI N := by rw [sm2 _ _ (by unfold Fgo Frw Fft; omega)]; exact h39
  have xM : FdM I2 m N F := hM.loc (fun b j z => sm2 _ _ (by unfold Fgo Frw Fft; omega))
  have x64 : I2 m 64 = nI (ckN N F) := by rw [sm2 _ _ (by unfold Fgo Frw Fft; omega)]; exact h64
  have x65 : I2 m 65 = nI (crF N F) := by rw [sm2 _ _ (by unfold Fgo Frw Fft; omega)]; exact h65
  have x68 : I2 m 68 = nI D := by rw [← hI2, up_at, if_pos ⟨rfl, rfl⟩]
  have x43 : I2 (m + 43) 0 = 0 := by rw [← hI2, up_at, if_neg (by omega), up_at, if_pos ⟨rfl, rfl⟩]
  have hR2 : ReM I2 m N F X := hR.fr (fun b j z => by
    rw [fr2 _ _ (by unfold Frw Fft at z; omega)]
    exact f3 _ _ (by unfold Frw Fft at z; unfold Ft; omega))
  refine ⟨fun z => ?_, fun z => ⟨vp_in_nI (show 17 < 22 by decide) (by decide), fun y => absurd y ?_, fun _ => ⟨vp_in_nI (show 0 < 4 by decide) (by decide), ?_⟩⟩⟩
  · have ed : D = 0 := (nI_eq (b := 0) (by omega) (by decide)).mp z
    subst ed
    obtain ⟨I3, q1, q2, q3, q4⟩ := ct_rowEnds (γ := γ) (l := l) (J := J) (acts := []) (F := F) (N := N) (M := 0) hA (show 17 < 22 by decide) h.2 rfl hrV.1.2.2 ⟨x39, xM, ⟨x68, by simp, fun i hi => absurd hi (by simp)⟩, hPk⟩ x64 x65 (by decide) hR2.1 hR2.2
    refine ⟨I3, q1, I3, rfl, rfl, ?_, sm2.tr (q4.mono (fun b j w => Or.inl w))⟩
    exact ReM.push (e := rootE N) rfl (fun k hk => by
      have : onm N F (rootE N) = 0 := by unfold onm; exact Nat.zero_and _
      rw [this, Nat.zero_testBit] at hk
      exact absurd hk (by decide)) q2 q3
  · rw [hPk.2.1]
    have e1 : pW (unP N (rootE N).1.2) = N := un_W hVf
    rw [e1]
    exact nI_ge (a := 1) (by omega) (by omega)
  · have hD1 : D ≠ 0 := fun w => z (by rw [w]; rfl)
    obtain ⟨r, rfl⟩ : ∃ r, D = r + 1 := ⟨D - 1, by omega⟩
    generalize hI3 : up I2 (m + 44) 0 99 = I3
    have fr3 : ∀ b j, ¬ (b = m + 44 ∧ j = 0) → I3 b j = I2 b j := fun b j w => by rw [← hI3, up_at, if_neg w]
    have sm3 : Sm (Fgo m) I I3 := sm2.tr (fun b j w => fr3 b j (fun v => w (by unfold Fgo; omega)))
    refine vis_all hA hD3 r _ 0 (rootE N) X I3 (by omega) heG ⟨(fr3 _ _ (by omega)).trans x39, xM.loc (fun b j w => fr3 _ _ (by omega)), (fr3 _ _ (by omega)).trans x64, (fr3 _ _ (by omega)).trans x65, (fr3 _ _ (by omega)).trans x68⟩ ⟨hPk.loc hrV.1.2.2.2.1 (fr3 _ _ (by omega)) (fr3 _ _ (by omega)) (fun b j w1 w2 w3 => fr3 _ _ (by omega)), (fr3 _ _ (by omega)).trans x43, fun i hi => absurd hi (by simp [rootE])⟩ (hR2.fr (fun b j w => fr3 _ _ (by unfold Frw Fft at w; omega))) (by rw [← hI3, up_at, if_pos ⟨rfl, rfl⟩]) (fun I4 h4 h5 => ?_)
    refine w_X9_goesThrough_55 hA ⟨fun _ => ⟨I4, rfl, rfl, by rw [Sq_sub]; exact h5, sm3.tr (h4.mono (fun b j w => by
      rcases w with w | w
      · exact Or.inl w
      · unfold Fgo; omega))⟩, fun w => absurd (by decide) w⟩
end GTR
