/-! ===== the class's outcomes: addTurned, turnOn ===== -/
theorem crN_left {P : Pk} {x : Nat} {over : Bool} (hP : PkV P) (hx1 : 1 ≤ x) (l1 l2 : Bool) : ∀ k, k + 1 ≤ pN P → crN P x l1 over k = crN P x l2 over k := by
  intro k
  induction k with
  | zero => intro _; rfl
  | succ k ih =>
    intro hk
    simp only [crN]
    rw [ih (by omega)]
    have h1 := crs_line (left := l1) hP (show k + 1 < pN P by omega) hx1
    have h2 := crs_line (left := l2) hP (show k + 1 < pN P by omega) hx1
    by_cases hz : crs P k = false ∧ lin P k = x
    · rw [if_neg (fun y => (h1.mp y) hz), if_neg (fun y => (h2.mp y) hz)]
    · rw [if_pos (h1.mpr hz), if_pos (h2.mpr hz)]
theorem mosN_ge {P : Pk} {c : Nat} : ∀ w, c < w → cnt (pC P) c (pN P) ≤ mosN P w := by
  intro w
  induction w with
  | zero => intro h; omega
  | succ w ih =>
    intro h
    simp only [mosN]
    by_cases hz : c = w
    · subst hz; split <;> omega
    · have := ih (by omega)
      split <;> omega
theorem mosK_1 {N M K : Nat} (h : VNd N M K) : 1 ≤ mosK N K := by
  have h1 : 0 < cnt (pC (unP N K)) 0 (pN (unP N K)) := h.2.2.2.2.2.2.2.2.1 0 (by have := h.2.2.2.2.1; omega)
  have h2 := mosN_ge (P := unP N K) (c := 0) (pW (unP N K)) (by have := h.2.2.2.2.1; omega)
  unfold mosK
  omega
theorem EnA.loc {I I' : Nat → Nat → Int32} {J J' : Nat → Nat → Int64} {a off : Nat} {L : List En} (h : EnA I J a off L) (hq : ∀ b j, b = a + 2 ∨ b = a + 3 → off ≤ j → j < off + L.length → I' b j = I b j) (hJ : ∀ j, off ≤ j → j < off + L.length → J' (a + 1) j = J (a + 1) j) : EnA I' J' a off L := by
  intro i hi
  obtain ⟨h1, h2, h3⟩ := h i hi
  exact ⟨(hJ _ (by omega) (by omega)).trans h1, (hq _ _ (by omega) (by omega) (by omega)).trans h2, (hq _ _ (by omega) (by omega) (by omega)).trans h3⟩
theorem SlA.loc {I I' : Nat → Nat → Int32} {a off : Nat} {L : List En} (h : SlA I a off L) (hq : ∀ j, I' (a + 5) j = I (a + 5) j) : SlA I' a off L := by
  obtain ⟨h1, h2, h3⟩ := h
  refine ⟨fun q hz => by rw [hq]; exact h1 q hz, fun i hi => ?_, by rw [emp_congr 2048 (fun q _ => hq q)]; exact h3⟩
  obtain ⟨t, t1, t2, t3⟩ := h2 i hi
  exact ⟨t, t1, (hq _).trans t2, fun t' ht' => by unfold slt; rw [hq]; exact t3 t' ht'⟩
/-- levels done in Pl; the next one as far as it is known -/
def OuS (I : Nat → Nat → Int32) (J : Nat → Nat → Int64) (a N : Nat) (B : Nat → List (List Nat)) (d : Nat) (Pl L : List En) : Prop := KB N B d L ∧ EnA I J a 0 Pl ∧ EnA I J a Pl.length L ∧ SlA I a Pl.length L ∧ (I a 1 = nI (Pl.length + L.length) ∧ I a 0 = nI N) ∧ Pl.length + lenB (B d) ≤ 1300
def OuF (a n : Nat) : Nat → Nat → Prop := fun b j => Fad a n b j ∨ (a + 6 ≤ b ∧ b < a + 18)
theorem OuS.loc {I I' : Nat → Nat → Int32} {J : Nat → Nat → Int64} {a N : Nat} {B : Nat → List (List Nat)} {d : Nat} {Pl L : List En} (h : OuS I J a N B d Pl L) (hq : ∀ b j, b ≤ a + 5 → I' b j = I b j) : OuS I' J a N B d Pl L := by
  obtain ⟨h1, h2, h3, h4, h5, h6⟩ := h
  exact ⟨h1, h2.loc (fun b j z _ _ => hq b j (by omega)) (fun _ _ _ => rfl), h3.loc (fun b j z _ _ => hq b j (by omega)) (fun _ _ _ => rfl), h4.loc (fun j => hq _ _ (by omega)), ⟨(hq _ _ (by omega)).trans h5.1, (hq _ _ (by omega)).trans h5.2⟩, h6⟩
section TON
variable {γ : rG} {l : Launch} {sh : Nat × (Nat → Nat) × (Nat → Nat)} {I : Nat → Nat → Int32} {J : Nat → Nat → Int64} {R : Nat → Nat → Option Nat} {a N d idx x sd g : Nat} {B : Nat → List (List Nat)} {Pl L : List En}
theorem ct_creasesOf {k M K : Nat} (hA : At1 sh R a) (hk : k < 1300) (hM : M < 2 ^ 14) (hK : K < 2 ^ 49) (hJ : J (a + 1) k = lN (kyN M K)) : rMet γ l m_X1_creasesOf [.ref a, .int (nI k)] (sh, I, J, R) (sh, I, J, R) (some (.int (nI M))) := by
  refine e_X1_creasesOf (rW_pure (w_X1_creasesOf_0 hA ⟨vp_in_nI hk (by decide), rfl, ?_⟩))
  rw [nI_clamp (by omega), hJ, show (49 : Int32) = nI 49 from rfl, lq_shr (by unfold kyN; omega) (by omega), lN_i]
  rw [show kyN M K / 2 ^ 49 = M by unfold kyN; omega]
theorem ct_unpackO {k M K p : Nat} (hA : At1 sh R a) (hB : At2 sh R p) (hk : k < 1300) (hV : VNd N M K) (h0 : I a 0 = nI N) (hJ : J (a + 1) k = lN (kyN M K)) : ∃ I', rMet γ l m_X1_unpack [.ref a, .ref p, .int (nI k)] (sh, I, J, R) (sh, I', J, R) none ∧ PkC I' p (unP N K) ∧ Sm (fun b _ => p ≤ b ∧ b < p + 6) I I' := by
  obtain ⟨I', m1, m2, m3⟩ := ct_unpack (γ := γ) (l := l) (I := I) (J := J) hB hV.2.1 hV.2.2
  have hb := hV.b
  refine ⟨I', e_X1_unpack (rW_pure (w_X1_unpack_0 hA hB ?_)), m2, m3⟩
  rw [nI_clamp (by omega), hJ, h0, show (562949953421311 : Int64) = lN (2 ^ 49 - 1) from rfl, lq_mask, show kyN M K % 2 ^ 49 = K by unfold kyN; omega]
  exact ⟨vp_in_nI hk (by decide), I', m1, rfl, rfl⟩
/-- one turn more, if it can be -/
theorem ct_addTurned (hA : At1 sh R a) (hT : Told N B) (hd : d < 3) (hS : OuS I J a N B (d + 1) Pl L) (hi : idx < Pl.length) (hV : EnV N B d (gE Pl idx)) (hF : PkC I (a + 6) (unP N (gE Pl idx).1.2)) (hx1 : 1 ≤ x) (hx : x < pW (unP N (gE Pl idx).1.2)) (hsd : sd < 2) (hg : g ≤ mosK N (gE Pl idx).1.2) (hm : (∀ t, t ∈ kid1 N (gE Pl idx).1.1 (gE Pl idx).1.2 x sd g → t ∈ kidsL N (gE Pl idx).1.1 (gE Pl idx).1.2)) :
    ∃ I' J', rMet γ l m_X1_addTurned [.ref a, .int (nI idx), .int (nI (100 * x + 10 * sd + g)), .int (nz (decide (sd = 0))), .int (nI (levD g)), .int (nI (kidM N (gE Pl idx).1.1 (gE Pl idx).1.2 x sd g))] (sh, I, J, R) (sh, I', J', R) none ∧ (OuS I' J' a N B (d + 1) Pl (insA L ((kid1 N (gE Pl idx).1.1 (gE Pl idx).1.2 x sd g).map (mkE (gE Pl idx)))) ∧ PkC I' (a + 6) (unP N (gE Pl idx).1.2) ∧ Sm (OuF a Pl.length) I I' ∧ SmO a Pl.length J J') := by
  generalize hee : gE Pl idx = e at hV hF hx hg hm ⊢
  obtain ⟨hK, hE0, hE, hSl, ⟨h1, h0⟩, hcap⟩ := id hS
  have hVN := hV.1
  have hb := hVN.b
  have hg8 := mosK_8 hVN
  have hW8 : pW (unP N e.1.2) ≤ 8 := hVN.2.2.2.2.2.1
  have hl8 : levD g ≤ 8 := by unfold levD; split <;> omega
  have hPl : Pl.length ≤ 1300 := by omega
  have hLl := hK.len
  have hfrom : At2 sh R (a + 6) := (At1_7 hA).2
  have hto : At2 sh R (a + 12) := (At1_8 hA).2
  have m1 := ct_turn (γ := γ) (l := l) (J := J) (x := x) (left := decide (sd = 0)) (lev := levD g) hto hfrom (by omega) hVN.2.2 hF hx1 hx hl8
  have hPV := kidP_V (sd := sd) (d := g) hVN hx1 hx
  have e1 : tLA I (a + 12) (turnP (unP N e.1.2) x (decide (sd = 0)) (levD g)) (pN (unP N e.1.2)) = tLA I (a + 12) (kidP N e.1.2 x sd g) (pN (kidP N e.1.2 x sd g)) := rfl
  rw [e1] at m1
  have hCt : PkC (tLA I (a + 12) (kidP N e.1.2 x sd g) (pN (kidP N e.1.2 x sd g))) (a + 12) (kidP N e.1.2 x sd g) := PkC_lay hPV.inn
  generalize hI1 : tLA I (a + 12) (kidP N e.1.2 x sd g) (pN (kidP N e.1.2 x sd g)) = I1 at m1 hCt
  have fr1 : ∀ b, b < a + 12 ∨ a + 18 ≤ b → I1 b = I b := fun b hb => by rw [← hI1]; exact tLA_row hb
  have fr1' : ∀ b j, b < a + 12 ∨ a + 18 ≤ b → I1 b j = I b j := fun b j hb => by rw [fr1 b hb]
  have hS1 : OuS I1 J a N B (d + 1) Pl L := hS.loc (fun b j hz => fr1' b j (by omega))
  have hF1 : PkC I1 (a + 6) (unP N e.1.2) := hF.loc (fun b z1 z2 => fr1 b (by omega))
  have sm1 : Sm (OuF a Pl.length) I I1 := fun b j z => fr1' b j (by unfold OuF at z; omega)
  suffices hh : s_X1_addTurned_0 γ l a (nI idx) (nI (100 * x + 10 * sd + g)) (nz (decide (sd = 0))) (nI (levD g)) (nI (kidM N e.1.1 e.1.2 x sd g)) (sh, I, J, R) (fun hf v => ∃ I' J', hf = (sh, I', J', R) ∧ v = none ∧ (OuS I' J' a N B (d + 1) Pl (insA L ((kid1 N e.1.1 e.1.2 x sd g).map (mkE e))) ∧ PkC I' (a + 6) (unP N e.1.2) ∧ Sm (OuF a Pl.length) I I' ∧ SmO a Pl.length J J')) by
    obtain ⟨I', J', q1, q2⟩ := rW_exJ hh
    exact ⟨I', J', e_X1_addTurned q1, q2⟩
  -- it is kept
  have keep : kidB N e.1.2 x sd g = false → s_X1_addTurned_53 γ l a (nI idx) (nI (100 * x + 10 * sd + g)) (nI (kidM N e.1.1 e.1.2 x sd g)) (sh, I1, J, R) (fun hf v => ∃ I' J', hf = (sh, I', J', R) ∧ v = none ∧ (OuS I' J' a N B (d + 1) Pl (insA L ((kid1 N e.1.1 e.1.2 x sd g).map (mkE e))) ∧ PkC I' (a + 6) (unP N e.1.2) ∧ Sm (OuF a Pl.length) I I' ∧ SmO a Pl.length J J')) := by
    intro hbd
    have ek : kid1 N e.1.1 e.1.2 x sd g = [(100 * x + 10 * sd + g, kidM N e.1.1 e.1.2 x sd g, kidK N e.1.2 x sd g)] := by unfold kid1; rw [hbd]; rfl
    rw [ek] at hm ⊢
    have hEV := hV.kid hT hd (hm _ (List.mem_singleton.mpr rfl))
    have hkb := hEV.1.b
    have m2 := ct_packed (γ := γ) (l := l) (J := J) hto hPV hCt
    have m2' : rMet γ l m_X2_packed [.ref (a + 12)] (sh, I1, J, R) (sh, I1, J, R) (some (.long (lN (kidK N e.1.2 x sd g)))) := m2
    obtain ⟨q1, q2, q3⟩ := hS1.2.1 idx hi
    rw [Nat.zero_add, hee] at q2 q3
    have hcd := cdA_lt hV.2.2.2
    rw [hV.2.2.1] at hcd
    have hcd2 : (1024 : Nat) ^ d ≤ 1024 ^ 2 := Nat.pow_le_pow_right (by decide) (by omega)
    have ekey : (nI (kidM N e.1.1 e.1.2 x sd g)).toInt64 <<< ((49 : Int32).toInt64 &&& 63) ||| lN (kidK N e.1.2 x sd g) = lN (kyN (mkE e (100 * x + 10 * sd + g, kidM N e.1.1 e.1.2 x sd g, kidK N e.1.2 x sd g)).1.1 (mkE e (100 * x + 10 * sd + g, kidM N e.1.1 e.1.2 x sd g, kidK N e.1.2 x sd g)).1.2) := by
      have hM' : kidM N e.1.1 e.1.2 x sd g < 2 ^ 14 := hkb.1
      have hK' : kidK N e.1.2 x sd g < 2 ^ 49 := hkb.2.1
      rw [nI_l (by omega), show (49 : Int32) = nI 49 from rfl, lq_shl (by omega) (by omega), lq_orS _ hK']
      rfl
    have eway : nI (cdA e.2.2) <<< ((10 : Int32) &&& 31) ||| nI (100 * x + 10 * sd + g) = nI (cdA (mkE e (100 * x + 10 * sd + g, kidM N e.1.1 e.1.2 x sd g, kidK N e.1.2 x sd g)).2.2) := by
      show _ = nI (cdA (e.2.2 ++ [100 * x + 10 * sd + g]))
      rw [cdA_snoc, show (10 : Int32) = nI 10 from rfl, bt_shl (by omega) (by omega), bt_or (by omega) (by omega), Nat.mul_comm, ← Nat.two_pow_add_eq_or_of_lt (show 100 * x + 10 * sd + g < 2 ^ 10 by omega), Nat.mul_comm]
    obtain ⟨I2, J2, m3, m4, m5, m6, m7, m8⟩ := ct_add (γ := γ) (l := l) (e := mkE e (100 * x + 10 * sd + g, kidM N e.1.1 e.1.2 x sd g, kidK N e.1.2 x sd g)) hA hK.1 (fun y hy => ⟨(hK.2 y hy).1.b.2.1, (hK.2 y hy).1.b.2.2.1⟩) ⟨hkb.2.1, hkb.2.2.1⟩ hS1.2.2.1 hS1.2.2.2.1 hS1.2.2.2.2.1.1 (fun hz => by
      have := (hK.in1 hEV).len
      have eI : (ins L (mkE e (100 * x + 10 * sd + g, kidM N e.1.1 e.1.2 x sd g, kidK N e.1.2 x sd g))).length = L.length + 1 := by
        unfold ins
        rw [hz]
        simp
      omega) (by omega)
    refine w_X1_addTurned_53 hA ⟨_, m2', vp_in_nI (by omega) (by decide), vp_in_nI (by omega) (by decide), ?_⟩
    rw [nI_clamp (by omega), q2, q3, ekey, eway]
    refine ⟨I2, J2, m3, I2, J2, rfl, rfl, ⟨hK.in1 hEV, hS1.2.1.loc (fun b j z1 z2 z3 => m7 _ _ (by unfold Fad; omega)) (fun j z2 z3 => m8 _ _ (by omega)), m4, m5, ⟨m6, (m7 _ _ (by unfold Fad; omega)).trans hS1.2.2.2.2.1.2⟩, hcap⟩, hF1.loc (fun b z1 z2 => ?_), sm1.tr (m7.mono (fun b j z => Or.inl z)), m8⟩
    funext j
    exact m7 _ _ (by unfold Fad; omega)
  -- it passes through
  have drop : kidB N e.1.2 x sd g = true → ∃ I' J', ((sh, I1, J, R) : rHeap) = (sh, I', J', R) ∧ (none : Option Value) = none ∧ (OuS I' J' a N B (d + 1) Pl (insA L ((kid1 N e.1.1 e.1.2 x sd g).map (mkE e))) ∧ PkC I' (a + 6) (unP N e.1.2) ∧ Sm (OuF a Pl.length) I I' ∧ SmO a Pl.length J J') := by
    intro hbd
    have ek : kid1 N e.1.1 e.1.2 x sd g = [] := by unfold kid1; rw [hbd]; rfl
    rw [ek]
    exact ⟨I1, J, rfl, rfl, hS1, hF1, sm1, SmO.rf⟩
  have ex : nI (100 * x + 10 * sd + g) / 100 = nI x := by
    rw [show (100 : Int32) = nI 100 from rfl, pk_div (by omega) (by decide) (by decide), show (100 * x + 10 * sd + g) / 100 = x by omega]
  refine w_X1_addTurned_0 hA ?_
  rw [ex]
  refine ⟨I1, m1, fun z => ?_, fun z => ⟨fun y => ?_, fun y => ?_⟩⟩
  · rw [show (0 : Int32) = nI 0 from rfl, nI_leI (by omega) (by decide)] at z
    have hg1 : g = 1 := by unfold levD at z; split at z <;> omega
    exact w_X1_addTurned_34 hA (w_X1_addTurned_35 hA ⟨fun _ => keep (by unfold kidB; rw [hg1]; rfl), fun w => absurd rfl w⟩)
  · rw [show (8 : Int32) = nI 8 from rfl, nI_leI (by decide) (by omega)] at y
    have hg0 : g = 0 := by unfold levD at y; split at y <;> omega
    exact w_X1_addTurned_34 hA (w_X1_addTurned_35 hA ⟨fun _ => keep (by unfold kidB; rw [hg0]; rfl), fun w => absurd rfl w⟩)
  · rw [show (0 : Int32) = nI 0 from rfl, nI_leI (by omega) (by decide)] at z
    rw [show (8 : Int32) = nI 8 from rfl, nI_leI (by decide) (by omega)] at y
    have hg2 : 2 ≤ g := by
      unfold levD at z y
      by_cases w : g = 0
      · rw [if_pos w] at y; omega
      · rw [if_neg w] at z; omega
    refine w_X1_addTurned_35 hA ⟨fun w => absurd w (by decide), fun _ => ⟨_, ct_passesThrough hto hPV hCt, fun w => ?_, fun w => ?_⟩⟩
    · rw [bz_0, ← passB_iff] at w
      exact keep (by unfold kidB; rw [decide_eq_true hg2]; simpa using w)
    · rw [bz_0, Classical.not_not, ← passB_iff] at w
      exact drop (by unfold kidB; rw [decide_eq_true hg2, w]; rfl)
end TON
