/-! ===== the class's search ===== -/
def FrC (I : Nat → Nat → Int32) (a N : Nat) (F : Fnd) (L : List En) (i : Nat) : Prop := (fst1 (pE N F) (L.take i) = none ∧ I a 9 = -1) ∨ ∃ j, j < i ∧ I a 9 = nI j ∧ fst1 (pE N F) (L.take i) = some ((gE L j).1, (gE L j).2.2) ∧ I a 10 = nI (lsl (slF N F (unP N (gE L j).1.2))) ∧ I a 11 = nz (decide (diN N F ≠ 0))
def SrS (I : Nat → Nat → Int32) (a N : Nat) (F : Fnd) (L : List En) (i : Nat) : Prop := I a 8 = nI (wsum (EkK N F) (L.take i)) ∧ FrC I a N F L i
theorem SrS.loc {I I' : Nat → Nat → Int32} {a N : Nat} {F : Fnd} {L : List En} {i : Nat} (h : SrS I a N F L i) (hq : ∀ j, 8 ≤ j → j ≤ 11 → I' a j = I a j) : SrS I' a N F L i := by
  refine ⟨(hq _ (by omega) (by omega)).trans h.1, ?_⟩
  rcases h.2 with ⟨h1, h2⟩ | ⟨j, h1, h2, h3, h4, h5⟩
  · exact Or.inl ⟨h1, (hq _ (by omega) (by omega)).trans h2⟩
  · exact Or.inr ⟨j, h1, (hq _ (by omega) (by omega)).trans h2, h3, (hq _ (by omega) (by omega)).trans h4, (hq _ (by omega) (by omega)).trans h5⟩
theorem SrS.no {I : Nat → Nat → Int32} {a N : Nat} {F : Fnd} {L : List En} {i : Nat} (h : SrS I a N F L i) (hi : i < L.length) (h0 : EkK N F (gE L i).1 = 0) : SrS I a N F L (i + 1) := by
  have hp : pE N F (gE L i).1 = false := decide_eq_false (by omega)
  have e1 : wsum (EkK N F) (L.take (i + 1)) = wsum (EkK N F) (L.take i) := by
    rw [take_gE hi, wsum_app]
    simp [wsum, h0]
  have e2 : fst1 (pE N F) (L.take (i + 1)) = fst1 (pE N F) (L.take i) := by
    rw [take_gE hi, fst1_app]
    simp [fst1, hp]
  refine ⟨by rw [e1]; exact h.1, ?_⟩
  rcases h.2 with ⟨h1, h2⟩ | ⟨j, h1, h2, h3, h4⟩
  · exact Or.inl ⟨by rw [e2]; exact h1, h2⟩
  · exact Or.inr ⟨j, by omega, h2, by rw [e2]; exact h3, h4⟩
def Fce (a : Nat) : Nat → Nat → Prop := fun b j => (b = a ∧ 8 ≤ j ∧ j ≤ 12) ∨ (a + 19 ≤ b ∧ b < a + 25)
section SRC2
variable {γ : rG} {l : Launch} {sh : Nat × (Nat → Nat) × (Nat → Nat)} {I : Nat → Nat → Int32} {J : Nat → Nat → Int64} {R : Nat → Nat → Option Nat} {a N i : Nat} {F : Fnd} {L : List En}
theorem ct_countEndings (hA : At0 sh R a) (hN : N ≤ 8) (hF : FdC I a N F) (hE : EnA I J (a + 1) 0 L) (h0 : I (a + 1) 0 = nI N) (hi : i < L.length) (hl : L.length ≤ 1300) (hV : VNd N (gE L i).1.1 (gE L i).1.2) (hm : (gE L i).1.1 &&& ckN N F = crF N F) (hS : SrS I a N F L i) : ∃ I', rMet γ l m_X0_countEndings [.ref a, .int (nI i)] (sh, I, J, R) (sh, I', J, R) none ∧ (SrS I' a N F L (i + 1) ∧ Sm (Fce a) I I') := by
  obtain ⟨b1, b2, b3, b4, b5, b6⟩ := sk_31 N F hN
  have hE0 := hE i hi
  rw [Nat.zero_add] at hE0
  obtain ⟨e1, e2, e3⟩ := hE0
  obtain ⟨I1, m1, m2, m3⟩ := ct_unpackO (γ := γ) (l := l) (J := J) (I := I) (At0_13 hA).2 (At0_14 hA).2 (show i < 1300 by omega) hV h0 e1
  have hF1 : FdC I1 a N F := hF.loc (fun j hj => m3 _ _ (by omega))
  obtain ⟨I3, m4, m5, m6⟩ := ct_slitEndings (γ := γ) (l := l) (J := J) hA hN hF1 hV.2.2 m2
  have hF3 : FdC I3 a N F := hF1.loc (fun j hj => m6 _ _ (by omega))
  have hC3 : PkC I3 (a + 19) (unP N (gE L i).1.2) := m2.loc (fun b z1 z2 => by funext j; exact m6 _ _ (by omega))
  have m7 := ct_soilEndings (γ := γ) (l := l) (J := J) hA hN hF3 hV.2.2 hC3
  have fr3 : ∀ b j, ¬ ((b = a ∧ j = 12) ∨ (a + 19 ≤ b ∧ b < a + 25)) → I3 b j = I b j := fun b j z => (m6 _ _ (by omega)).trans (m3 _ _ (by omega))
  have hsl := slF_len (N := N) (F := F) hV.2.2
  have hso := soF_len (N := N) (F := F) (P := unP N (gE L i).1.2)
  have hEk : EkK N F (gE L i).1 = (slF N F (unP N (gE L i).1.2)).length * (soF N F (unP N (gE L i).1.2)).length := by unfold EkK; rw [if_pos hm]
  have hEb : EkK N F (gE L i).1 < 2 ^ 31 := by
    rw [hEk]
    have := Nat.mul_le_mul hsl hso
    omega
  have ws : wsum (EkK N F) (L.take (i + 1)) = wsum (EkK N F) (L.take i) + EkK N F (gE L i).1 * (gE L i).2.1 := by
    rw [take_gE hi, wsum_app]
    simp [wsum]
  have fs : fst1 (pE N F) (L.take (i + 1)) = (fst1 (pE N F) (L.take i)).or (if pE N F (gE L i).1 then some ((gE L i).1, (gE L i).2.2) else none) := by
    rw [take_gE hi, fst1_app]
    rfl
  -- the sum is raised
  have fin : ∀ I4, I4 a 8 = I a 8 → I4 (a + 1 + 2) i = nI (gE L i).2.1 → FrC I4 a N F L (i + 1) → Sm (Fce a) I I4 → s_X0_countEndings_63 γ l a (nI i) (nI (EkK N F (gE L i).1)) (sh, I4, J, R) (fun hf v => ∃ I', hf = (sh, I', J, R) ∧ v = none ∧ (SrS I' a N F L (i + 1) ∧ Sm (Fce a) I I')) := by
    intro I4 x1 x2 x3 x4
    refine w_X0_countEndings_63 hA ⟨vp_in_nI (by omega) (by decide), _, rfl, rfl, ⟨?_, ?_⟩, x4.up (Or.inl ⟨rfl, by omega, by omega⟩)⟩
    · rw [up_at, if_pos ⟨rfl, rfl⟩, nI_clamp (by omega), x1, x2, hS.1, pk_mul, nI_add, ws]
    · rcases x3 with ⟨y1, y2⟩ | ⟨j, y1, y2, y3, y4, y5⟩
      · exact Or.inl ⟨y1, by rw [up_at, if_neg (by omega)]; exact y2⟩
      · exact Or.inr ⟨j, y1, by rw [up_at, if_neg (by omega)]; exact y2, y3, by rw [up_at, if_neg (by omega)]; exact y4, by rw [up_at, if_neg (by omega)]; exact y5⟩
  have sm3 : Sm (Fce a) I I3 := fun b j z => fr3 b j (fun y => z (by unfold Fce; omega))
  have w3 : I3 (a + 1 + 2) i = nI (gE L i).2.1 := by rw [fr3 _ _ (by omega)]; exact e2
  suffices hh : s_X0_countEndings_0 γ l a (nI i) (sh, I, J, R) (fun hf v => ∃ I', hf = (sh, I', J, R) ∧ v = none ∧ (SrS I' a N F L (i + 1) ∧ Sm (Fce a) I I')) by
    obtain ⟨I', q1, q2⟩ := rW_ex hh
    exact ⟨I', e_X0_countEndings q1, q2⟩
  refine w_X0_countEndings_0 hA ⟨I1, m1, I3, _, m4, _, m7, ?_⟩
  rw [pk_mul, ← hEk]
  -- the first stays
  have stay : (pE N F (gE L i).1 = false ∨ I a 9 ≠ -1) → FrC I3 a N F L (i + 1) := by
    intro hz
    rcases hS.2 with ⟨h1, h2⟩ | ⟨j, h1, h2, h3, h4, h5⟩
    · rcases hz with hz | hz
      · refine Or.inl ⟨?_, (fr3 _ _ (by omega)).trans h2⟩
        rw [fs, h1, hz]; rfl
      · exact absurd h2 hz
    · exact Or.inr ⟨j, by omega, (fr3 _ _ (by omega)).trans h2, by rw [fs, h3]; rfl, (fr3 _ _ (by omega)).trans h4, (fr3 _ _ (by omega)).trans h5⟩
  refine ⟨fun z => ?_, fun z => ⟨fun y => ?_, fun y => ?_⟩⟩
  · rw [show (0 : Int32) = nI 0 from rfl, nI_leI hEb (by decide)] at z
    exact fin I3 (fr3 _ _ (by omega)) w3 (stay (Or.inl (decide_eq_false (by omega)))) sm3
  · rw [show (0 : Int32) = nI 0 from rfl, nI_leI hEb (by decide)] at z
    have hpE : pE N F (gE L i).1 = true := decide_eq_true (by omega)
    have h9 : I a 9 = -1 := by rw [← fr3 a 9 (by omega)]; exact y
    have hn : fst1 (pE N F) (L.take i) = none := by
      rcases hS.2 with ⟨h1, h2⟩ | ⟨j, h1, h2, _⟩
      · exact h1
      · rw [h9] at h2; exact absurd h2.symm (nI_ne1 (by omega))
    have e6 : up (up I3 a 9 (nI i)) a 10 (up I3 a 9 (nI i) a 12) a 6 = nI (diN N F) := by
      rw [up_at, if_neg (by omega), up_at, if_neg (by omega)]; exact hF3.2.2.2.2.2.2
    have e12 : up I3 a 9 (nI i) a 12 = nI (lsl (slF N F (unP N (gE L i).1.2))) := by rw [up_at, if_neg (by omega)]; exact m5
    have go : ∀ w : Bool, w = decide (diN N F ≠ 0) → s_X0_countEndings_60 γ l a (nI i) (nI (EkK N F (gE L i).1)) (nz w) a (sh, up (up I3 a 9 (nI i)) a 10 (nI (lsl (slF N F (unP N (gE L i).1.2)))), J, R) (fun hf v => ∃ I', hf = (sh, I', J, R) ∧ v = none ∧ (SrS I' a N F L (i + 1) ∧ Sm (Fce a) I I')) := by
      intro w hw
      refine w_X0_countEndings_60 hA hA ⟨by cases w <;> simp [nz], fin _ ?_ ?_ (Or.inr ⟨i, by omega, ?_, ?_, ?_, ?_⟩) (((sm3.up (Or.inl ⟨rfl, by omega, by omega⟩)).up (Or.inl ⟨rfl, by omega, by omega⟩)).up (Or.inl ⟨rfl, by omega, by omega⟩))⟩
      · rw [up_at, if_neg (by omega), up_at, if_neg (by omega), up_at, if_neg (by omega)]; exact fr3 _ _ (by omega)
      · rw [up_at, if_neg (by omega), up_at, if_neg (by omega), up_at, if_neg (by omega)]; exact w3
      · rw [up_at, if_neg (by omega), up_at, if_neg (by omega), up_at, if_pos ⟨rfl, rfl⟩]
      · rw [fs, hn, hpE]; rfl
      · rw [up_at, if_neg (by omega), up_at, if_pos ⟨rfl, rfl⟩]
      · rw [up_at, if_pos ⟨rfl, rfl⟩, hw]
    rw [e6, e12, show (0 : Int32) = nI 0 from rfl, nI_eq b4 (by decide)]
    exact ⟨fun w => go false (by rw [decide_eq_false (fun x => x w)]), fun w => go true (by rw [decide_eq_true w])⟩
  · have h9 : I a 9 ≠ -1 := by rw [← fr3 a 9 (by omega)]; exact y
    exact fin I3 (fr3 _ _ (by omega)) w3 (stay (Or.inr h9)) sm3
def Fsr (a : Nat) : Nat → Nat → Prop := fun b j => (b = a ∧ 7 ≤ j ∧ j ≤ 12) ∨ Fpr (a + 1) b j ∨ (a + 19 ≤ b ∧ b < a + 25)
theorem PLb_V {N : Nat} (h : 2 ≤ N ∧ N ≤ 8) : ∀ d, d ≤ 4 → ∀ x, x ∈ PLb N d → ∃ B d', Told N B ∧ EnV N B d' x := by
  obtain ⟨B, hT⟩ := told_all h.1 h.2
  intro d
  induction d with
  | zero => intro _ x hx; exact absurd hx (by simp [PLb])
  | succ d ih =>
    intro hd x hx
    simp only [PLb] at hx
    rcases List.mem_append.mp hx with z | z
    · exact ih (by omega) x z
    · exact ⟨B, d, hT, (Lv_KB h hT d (by omega)).2 x z⟩
theorem PLb_1300 {N : Nat} (h : 2 ≤ N ∧ N ≤ 8) : (PLb N 4).length ≤ 1300 := by
  obtain ⟨B, hT⟩ := told_all h.1 h.2
  have h1 := PLb_len h hT 4 (Nat.le_refl _)
  have h2 := sumB_4 hT 3 (Nat.le_refl _)
  have h3 : sumB B 4 = sumB B 3 + lenB (B 3) := rfl
  omega
theorem ct_search0 (hA : At0 sh R a) (h : 2 ≤ N ∧ N ≤ 8) (hF : FdC I a N F) (hK : OuK I J (a + 1)) (h7 : I a 7 = 0) : ∃ I' J', rMet γ l m_X0_search [.ref a] (sh, I, J, R) (sh, I', J', R) none ∧ (OuR I' J' (a + 1) N ∧ SrS I' a N F (PLb N 4) (PLb N 4).length ∧ I' a 7 = 1 ∧ Sm (Fsr a) I I' ∧ SmJ (a + 2) J J') := by
  obtain ⟨b1, b2, b3, b4, b5, b6⟩ := sk_31 N F h.2
  have hl := PLb_1300 h
  have e0 : up I a 7 1 a 0 = nI N := by rw [up_at, if_neg (by omega)]; exact hF.1
  have hK1 : OuK (up I a 7 1) J (a + 1) := by
    intro N' n1 n2 hz
    rw [up_at, if_neg (by omega)] at hz
    obtain ⟨o1, o2, o3, o4⟩ := hK N' n1 n2 hz
    exact ⟨by rw [up_at, if_neg (by omega)]; exact o1, o2.loc (fun b j z _ _ => by rw [up_at, if_neg (by omega)]) (fun _ _ _ => rfl), by rw [up_at, if_neg (by omega)]; exact o3, fun d hd => by rw [up_at, if_neg (by omega)]; exact o4 d hd⟩
  obtain ⟨I2, J2, m1, m2, m3, m4⟩ := ct_prepare (γ := γ) (l := l) (N := N) (At0_13 hA).2 h hK1
  have loop : ∀ j i I1, i + j = (PLb N 4).length → SrS I1 a N F (PLb N 4) i → OuR I1 J2 (a + 1) N → FdC I1 a N F → I1 a 7 = 1 → Sm (Fsr a) I I1 → s_X0_search_36 γ l a (nI i) (sh, I1, J2, R) (fun hf v => ∃ I' J', hf = (sh, I', J', R) ∧ v = none ∧ (OuR I' J' (a + 1) N ∧ SrS I' a N F (PLb N 4) (PLb N 4).length ∧ I' a 7 = 1 ∧ Sm (Fsr a) I I' ∧ SmJ (a + 2) J J')) := by
    intro j
    induction j with
    | zero =>
      intro i I1 hi hS hO hF1 h71 hSm
      have ei : i = (PLb N 4).length := by omega
      rw [ei] at hS ⊢
      refine w_X0_search_36 hA ⟨fun _ => ⟨I1, J2, rfl, rfl, hO, hS, h71, hSm, m4⟩, fun z => absurd ?_ z⟩
      rw [hO.2.2.1]; exact nI_le (Nat.le_refl _) (by omega)
    | succ j ih =>
      intro i I1 hi hS hO hF1 h71 hSm
      have hi' : i < (PLb N 4).length := by omega
      obtain ⟨B, d', _, hEV⟩ := PLb_V h 4 (Nat.le_refl _) _ (gE_mem hi')
      have hb := hEV.1.b
      have hJ := (hO.2.1 i hi').1
      rw [Nat.zero_add] at hJ
      have c1 := ct_creasesOf (γ := γ) (l := l) (I := I1) (R := R) (At0_13 hA).2 (show i < 1300 by omega) hb.1 hb.2.1 hJ
      refine w_X0_search_36 hA ⟨fun z => absurd z (by rw [hO.2.2.1]; exact nI_ge (by omega) (by omega)), fun _ => ⟨_, c1, ?_⟩⟩
      rw [hF1.2.1, hF1.2.2.1, and_eq (by omega) (by omega) (by omega), beq_iff_eq, nI_1]
      refine ⟨fun z => ?_, fun z => ?_⟩
      · obtain ⟨I4, q1, q2, q3⟩ := ct_countEndings (γ := γ) (l := l) hA h.2 hF1 hO.2.1 hO.1 hi' hl hEV.1 z hS
        refine ⟨I4, q1, ih (i + 1) I4 (by omega) q2 ⟨(q3 _ _ (by unfold Fce; omega)).trans hO.1, hO.2.1.loc (fun b j z _ _ => q3 _ _ (by unfold Fce; omega)) (fun _ _ _ => rfl), (q3 _ _ (by unfold Fce; omega)).trans hO.2.2.1, fun d hd => (q3 _ _ (by unfold Fce; omega)).trans (hO.2.2.2 d hd)⟩ (hF1.loc (fun j hj => q3 _ _ (by unfold Fce; omega))) ((q3 _ _ (by unfold Fce; omega)).trans h71) (hSm.tr (q3.mono (fun b j z => by unfold Fce at z; unfold Fsr; omega)))⟩
      · exact ih (i + 1) I1 (by omega) (hS.no hi' (by unfold EkK; rw [if_neg z])) hO hF1 h71 hSm
  suffices hh : s_X0_search_0 γ l a (sh, I, J, R) (fun hf v => ∃ I' J', hf = (sh, I', J', R) ∧ v = none ∧ (OuR I' J' (a + 1) N ∧ SrS I' a N F (PLb N 4) (PLb N 4).length ∧ I' a 7 = 1 ∧ Sm (Fsr a) I I' ∧ SmJ (a + 2) J J')) by
    obtain ⟨I', J', q1, q2⟩ := rW_exJ hh
    exact ⟨I', J', e_X0_search q1, q2⟩
  refine w_X0_search_0 hA ⟨fun _ => ?_, fun z => absurd h7 z⟩
  rw [e0]
  refine ⟨I2, J2, m1, ?_⟩
  have fr2 : ∀ b j, ¬ (b = a ∧ (j = 8 ∨ j = 9)) → up (up I2 a 8 0) a 9 (-1) b j = I2 b j := fun b j z => by rw [up_at, if_neg (by omega), up_at, if_neg (by omega)]
  refine loop (PLb N 4).length 0 _ (by omega) ⟨?_, Or.inl ⟨rfl, ?_⟩⟩ ⟨(fr2 _ _ (by omega)).trans m2.1, m2.2.1.loc (fun b j z _ _ => fr2 _ _ (by omega)) (fun _ _ _ => rfl), (fr2 _ _ (by omega)).trans m2.2.2.1, fun d hd => (fr2 _ _ (by omega)).trans (m2.2.2.2 d hd)⟩ (hF.loc (fun j hj => ?_)) ?_ (((Sm.tr (I' := I2) ?_ Sm.rf).up (Or.inl ⟨rfl, by omega, by omega⟩)).up (Or.inl ⟨rfl, by omega, by omega⟩))
  · rw [up_at, if_neg (by omega), up_at, if_pos ⟨rfl, rfl⟩]; rfl
  · rw [up_at, if_pos ⟨rfl, rfl⟩]
  · rw [fr2 _ _ (by omega), m3 _ _ (by unfold Fpr; omega), up_at, if_neg (by omega)]
  · rw [fr2 _ _ (by omega), m3 _ _ (by unfold Fpr; omega), up_at, if_pos ⟨rfl, rfl⟩]
  · intro b j z
    rw [m3 _ _ (fun y => z (Or.inr (Or.inl y))), up_at, if_neg (fun y => z (by unfold Fsr; omega))]
theorem ct_search1 (hA : At0 sh R a) (h7 : I a 7 = 1) : rMet γ l m_X0_search [.ref a] (sh, I, J, R) (sh, I, J, R) none :=
  e_X0_search (rW_pure (w_X0_search_0 hA ⟨fun z => absurd z (by rw [h7]; decide), fun _ => ⟨rfl, rfl⟩⟩))
end SRC2
