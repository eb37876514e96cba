/-! ===== the class's outcomes: prepare ===== -/
def PLb (N : Nat) : Nat → List En
  | 0 => []
  | d + 1 => PLb N d ++ Lv N d
def sumB (B : Nat → List (List Nat)) : Nat → Nat
  | 0 => 0
  | d + 1 => sumB B d + lenB (B d)
theorem PLb_len {N : Nat} {B : Nat → List (List Nat)} (h : 2 ≤ N ∧ N ≤ 8) (hT : Told N B) : ∀ d, d ≤ 4 → (PLb N d).length ≤ sumB B d := by
  intro d
  induction d with
  | zero => intro _; simp [PLb]
  | succ d ih =>
    intro hd
    have h1 := ih (by omega)
    have h2 := (Lv_KB h hT d (by omega)).len
    simp only [PLb, sumB, List.length_append]
    omega
theorem sumB_4 {N : Nat} {B : Nat → List (List Nat)} (hT : Told N B) : ∀ d, d ≤ 3 → sumB B d + lenB (B d) ≤ 1300 := by
  intro d hd
  have h1 := hT.2.2
  have : d = 0 ∨ d = 1 ∨ d = 2 ∨ d = 3 := by omega
  rcases this with e | e | e | e <;> subst e <;> simp only [sumB] <;> omega
theorem gE_ar {A C : List En} {i : Nat} (hi : i < C.length) : gE (A ++ C) (A.length + i) = gE C i := by
  unfold gE
  rw [gD_el hi, gD_el (by rw [List.length_append]; omega), List.getElem_append_right (by omega)]
  simp
theorem gE_al {A C : List En} {i : Nat} (hi : i < A.length) : gE (A ++ C) i = gE A i := by
  unfold gE
  rw [gD_el hi, gD_el (by rw [List.length_append]; omega), List.getElem_append_left hi]
theorem EnA.app {I : Nat → Nat → Int32} {J : Nat → Nat → Int64} {a : Nat} {A C : List En} (h1 : EnA I J a 0 A) (h2 : EnA I J a A.length C) : EnA I J a 0 (A ++ C) := by
  intro i hi
  rw [List.length_append] at hi
  rcases Nat.lt_or_ge i A.length with z | z
  · rw [gE_al z]; exact h1 i z
  · obtain ⟨k, rfl⟩ : ∃ k, i = A.length + k := ⟨i - A.length, by omega⟩
    rw [gE_ar (by omega), Nat.zero_add]
    exact h2 k (by omega)
theorem take_gE {L : List En} {k : Nat} (hk : k < L.length) : L.take (k + 1) = L.take k ++ [gE L k] := by
  unfold gE
  rw [gD_el hk, List.take_succ_eq_append_getElem hk]
/-- all outcomes stand -/
def OuR (I : Nat → Nat → Int32) (J : Nat → Nat → Int64) (a N : Nat) : Prop := I a 0 = nI N ∧ EnA I J a 0 (PLb N 4) ∧ I a 1 = nI (PLb N 4).length ∧ ∀ d, d < 4 → I (a + 4) d = nI (PLb N (d + 1)).length
def OuK (I : Nat → Nat → Int32) (J : Nat → Nat → Int64) (a : Nat) : Prop := ∀ N, 2 ≤ N → N ≤ 8 → I a 0 = nI N → OuR I J a N
def Fpr (a : Nat) : Nat → Nat → Prop := fun b j => (b = a ∧ j < 2) ∨ (a + 2 ≤ b ∧ b < a + 18)
def PrS (I : Nat → Nat → Int32) (J : Nat → Nat → Int64) (a N t : Nat) : Prop := I a 0 = nI N ∧ EnA I J a 0 (PLb N t) ∧ I a 1 = nI (PLb N t).length ∧ ∀ d, d < t → I (a + 4) d = nI (PLb N (d + 1)).length
section PREP
variable {γ : rG} {l : Launch} {sh : Nat × (Nat → Nat) × (Nat → Nat)} {I : Nat → Nat → Int32} {J : Nat → Nat → Int64} {R : Nat → Nat → Option Nat} {a N : Nat}
theorem ct_startLevel (hA : At1 sh R a) : rMet γ l m_X1_startLevel [.ref a] (sh, I, J, R) (sh, fillN I (a + 5) (-1) 2048, J, R) none :=
  e_X1_startLevel (rW_pure (w_X1_startLevel_0 hA ⟨_, ct_fill (At1_6 hA).2.1 (At1_6 hA).2.2 (by decide), rfl, rfl⟩))
theorem SlA_nil {off : Nat} (h : ∀ q, q < 2048 → I (a + 5) q = -1) : SlA I a off [] := by
  refine ⟨fun q hq => Or.inl (h q hq), fun i hi => absurd hi (by simp), ?_⟩
  rw [emp_all 2048 h]
  rfl
theorem ct_prepare (hA : At1 sh R a) (h : 2 ≤ N ∧ N ≤ 8) (hK : OuK I J a) : ∃ I' J', rMet γ l m_X1_prepare [.ref a, .int (nI N)] (sh, I, J, R) (sh, I', J', R) none ∧ (OuR I' J' a N ∧ Sm (Fpr a) I I' ∧ SmJ (a + 1) J J') := by
  obtain ⟨B, hT⟩ := told_all h.1 h.2
  have hto : At2 sh R (a + 12) := (At1_8 hA).2
  have hAL := PLb_len h hT 4 (Nat.le_refl _)
  have hs3 := sumB_4 hT
  have fl : ∀ (I1 : Nat → Nat → Int32) b j, b ≠ a + 5 → fillN I1 (a + 5) (-1) 2048 b j = I1 b j := fun I1 b j z => by unfold fillN; rw [if_neg (fun y => z y.1)]
  have fq : ∀ (I1 : Nat → Nat → Int32) q, q < 2048 → fillN I1 (a + 5) (-1) 2048 (a + 5) q = -1 := fun I1 q z => by unfold fillN; rw [if_pos ⟨rfl, z⟩]
  -- a level's parents, one after the other
  have inner : ∀ t, 1 ≤ t → t ≤ 3 → (∀ I2 J2, PrS I2 J2 a N (t + 1) → Sm (Fpr a) I I2 → SmJ (a + 1) J J2 → s_X1_prepare_58 γ l a (nI (PLb N t).length) (nI (t + 1)) (sh, I2, J2, R) (fun hf v => ∃ I' J', hf = (sh, I', J', R) ∧ v = none ∧ (OuR I' J' a N ∧ Sm (Fpr a) I I' ∧ SmJ (a + 1) J J'))) → ∀ j k I1 J1, k + j = (Lv N (t - 1)).length → OuS I1 J1 a N B t (PLb N t) (insA [] (((Lv N (t - 1)).take k).flatMap (kidsE N))) → (∀ d, d < t → I1 (a + 4) d = nI (PLb N (d + 1)).length) → Sm (Fpr a) I I1 → SmJ (a + 1) J J1 → s_X1_prepare_76 γ l a (nI t) (nI (PLb N t).length) (nI ((PLb N (t - 1)).length + k)) (sh, I1, J1, R) (fun hf v => ∃ I' J', hf = (sh, I', J', R) ∧ v = none ∧ (OuR I' J' a N ∧ Sm (Fpr a) I I' ∧ SmJ (a + 1) J J')) := by
    intro t ht1 ht3 K j
    have hPt : PLb N t = PLb N (t - 1) ++ Lv N (t - 1) := by
      obtain ⟨s, rfl⟩ : ∃ s, t = s + 1 := ⟨t - 1, by omega⟩
      rfl
    have hlt : (PLb N t).length = (PLb N (t - 1)).length + (Lv N (t - 1)).length := by rw [hPt, List.length_append]
    have hcap : (PLb N t).length ≤ 1300 := by have := PLb_len h hT t (by omega); have := hs3 t (by omega); omega
    induction j with
    | zero =>
      intro k I1 J1 hk hS hLe hF hJ
      have ek : k = (Lv N (t - 1)).length := by omega
      rw [ek, List.take_length] at hS
      have eL : insA [] ((Lv N (t - 1)).flatMap (kidsE N)) = Lv N t := by
        obtain ⟨s, rfl⟩ : ∃ s, t = s + 1 := ⟨t - 1, by omega⟩
        rfl
      rw [eL] at hS
      obtain ⟨s1, s2, s3, s4, ⟨s5, s6⟩, s7⟩ := hS
      refine w_X1_prepare_76 hA ⟨fun _ => ?_, fun z => absurd (nI_le (by omega) (by omega)) z⟩
      rw [nI_clamp (by omega), s5, nI_1]
      refine ⟨vp_in_nI (by omega) (by decide), K _ J1 ⟨?_, (s2.app s3).loc (fun b j z _ _ => by rw [up_at, if_neg (by omega)]) (fun _ _ _ => rfl), ?_, fun d hd => ?_⟩ (hF.up (Or.inr (by omega))) hJ⟩
      · rw [up_at, if_neg (by omega)]; exact s6
      · rw [up_at, if_neg (by omega), s5]
        simp only [PLb, List.length_append]
      · by_cases z : d = t
        · subst z
          rw [up_at, if_pos ⟨rfl, rfl⟩]
          simp only [PLb, List.length_append]
        · rw [up_at, if_neg (by omega)]
          exact hLe d (by omega)
    | succ j ih =>
      intro k I1 J1 hk hS hLe hF hJ
      have hk' : k < (Lv N (t - 1)).length := by omega
      have eg : gE (PLb N t) ((PLb N (t - 1)).length + k) = gE (Lv N (t - 1)) k := by rw [hPt, gE_ar hk']
      have hEV : EnV N B (t - 1) (gE (Lv N (t - 1)) k) := (Lv_KB h hT (t - 1) (by omega)).2 _ (gE_mem hk')
      obtain ⟨s, rfl⟩ : ∃ s, t = s + 1 := ⟨t - 1, by omega⟩
      obtain ⟨I2, J2, m1, m2, m3, m4⟩ := ct_turnOn (γ := γ) (l := l) (idx := (PLb N s).length + k) hA hT (show s < 3 by omega) hS (by rw [hlt]; show _ < (PLb N s).length + (Lv N s).length; have : k < (Lv N s).length := hk'; omega) (by
        have eg' : gE (PLb N (s + 1)) ((PLb N s).length + k) = gE (Lv N s) k := eg
        rw [eg']; exact hEV)
      have m3' : Sm (Fpr a) I1 I2 := m3.mono (fun b j z => by unfold OuF Fad at z; unfold Fpr; omega)
      refine w_X1_prepare_76 hA ⟨fun z => absurd z (nI_ge (by rw [hlt]; show (PLb N s).length + k < (PLb N s).length + (Lv N s).length; have : k < (Lv N s).length := hk'; omega) (by omega)), fun _ => ⟨I2, J2, m1, ?_⟩⟩
      rw [nI_1]
      refine ih (k + 1) I2 J2 (by omega) ?_ (fun d hd => by rw [m3 _ _ (by unfold OuF Fad; omega)]; exact hLe d hd) (hF.tr m3') (hJ.tr (fun b j z => m4 b j (fun y => z y.1)))
      rw [take_gE hk', List.flatMap_append, insA_app]
      have e1 : [gE (Lv N (s + 1 - 1)) k].flatMap (kidsE N) = kidsE N (gE (PLb N (s + 1)) ((PLb N s).length + k)) := by
        show kidsE N (gE (Lv N s) k) ++ [] = _
        rw [List.append_nil]
        rw [show gE (PLb N (s + 1)) ((PLb N s).length + k) = gE (Lv N s) k from eg]
      rw [e1]
      exact m2
  have outer : ∀ j t I1 J1, t + j = 4 → 1 ≤ t → PrS I1 J1 a N t → Sm (Fpr a) I I1 → SmJ (a + 1) J J1 → s_X1_prepare_58 γ l a (nI (PLb N (t - 1)).length) (nI t) (sh, I1, J1, R) (fun hf v => ∃ I' J', hf = (sh, I', J', R) ∧ v = none ∧ (OuR I' J' a N ∧ Sm (Fpr a) I I' ∧ SmJ (a + 1) J J')) := by
    intro j
    induction j with
    | zero =>
      intro t I1 J1 hj ht hP hF hJ
      have et : t = 4 := by omega
      subst et
      exact w_X1_prepare_58 hA ⟨fun _ => ⟨I1, J1, rfl, rfl, hP, hF, hJ⟩, fun z => absurd (by decide) z⟩
    | succ j ih =>
      intro t I1 J1 hj ht hP hF hJ
      obtain ⟨p1, p2, p3, p4⟩ := hP
      refine w_X1_prepare_58 hA ⟨fun z => absurd z (nI_nlt (a := 3) (by omega) (by omega)), fun _ => ⟨_, ct_startLevel hA, ?_⟩⟩
      rw [fl _ _ _ (by omega), p3]
      have hcap : (PLb N t).length ≤ sumB B t := PLb_len h hT t (by omega)
      have hcap2 := hs3 t (by omega)
      refine inner t ht (by omega) (fun I2 J2 q1 q2 q3 => ih (t + 1) I2 J2 (by omega) (by omega) q1 q2 q3) (Lv N (t - 1)).length 0 _ J1 (by omega) ⟨⟨by simp [insA, ndK], fun x hx => absurd hx (by simp [insA])⟩, p2.loc (fun b j z _ _ => fl _ _ _ (by omega)) (fun _ _ _ => rfl), fun i hi => absurd hi (by simp [insA]), SlA_nil (fun q hq => fq _ q hq), ⟨?_, ?_⟩, by omega⟩ (fun d hd => by rw [fl _ _ _ (by omega)]; exact p4 d hd) (hF.tr (fun b j z => fl _ _ _ (fun y => z (by unfold Fpr; omega)))) hJ
      · rw [fl _ _ _ (by omega), p3]; rfl
      · rw [fl _ _ _ (by omega)]; exact p1
  suffices hh : s_X1_prepare_0 γ l a (nI N) (sh, I, J, R) (fun hf v => ∃ I' J', hf = (sh, I', J', R) ∧ v = none ∧ (OuR I' J' a N ∧ Sm (Fpr a) I I' ∧ SmJ (a + 1) J J')) by
    obtain ⟨I', J', q1, q2⟩ := rW_exJ hh
    exact ⟨I', J', e_X1_prepare q1, q2⟩
  refine w_X1_prepare_0 hA ⟨fun z => ⟨I, J, rfl, rfl, hK N h.1 h.2 z, Sm.rf, SmJ.rf⟩, fun _ => ?_⟩
  have hVf := flat_V h
  have c1 := ct_layFlat (γ := γ) (l := l) (I := up (up I a 0 (nI N)) a 1 0) (J := J) hto h.2
  have hC1 : PkC (pkFlat (pkBegin (up (up I a 0 (nI N)) a 1 0) (a + 12) (nI N) (nI N)) (a + 12) N) (a + 12) (flatP N) := by
    rw [pkFlat_layAll]
    exact PkC_lay (P := flatP N) hVf.inn
  have fr1 : ∀ b, b < a + 12 ∨ a + 18 ≤ b → pkFlat (pkBegin (up (up I a 0 (nI N)) a 1 0) (a + 12) (nI N) (nI N)) (a + 12) N b = up (up I a 0 (nI N)) a 1 0 b := by
    intro b hb
    rw [pkFlat_layAll, layAll_row (by omega), pkBegin_row (by omega)]
  generalize pkFlat (pkBegin (up (up I a 0 (nI N)) a 1 0) (a + 12) (nI N) (nI N)) (a + 12) N = I2 at c1 hC1 fr1
  have fr1' : ∀ b j, b < a + 12 ∨ a + 18 ≤ b → I2 b j = up (up I a 0 (nI N)) a 1 0 b j := fun b j hb => by rw [fr1 b hb]
  have hC2 : PkC (fillN I2 (a + 5) (-1) 2048) (a + 12) (flatP N) := hC1.loc (fun b z1 z2 => by funext j; exact fl _ _ _ (by omega))
  have c2 := ct_packed (γ := γ) (l := l) (J := J) hto hVf hC2
  have c2' : rMet γ l m_X2_packed [.ref (a + 12)] (sh, fillN I2 (a + 5) (-1) 2048, J, R) (sh, fillN I2 (a + 5) (-1) 2048, J, R) (some (.long (lN (kyN (rootE N).1.1 (rootE N).1.2)))) := by
    have e : kyN (rootE N).1.1 (rootE N).1.2 = pcN (flatP N) N := by unfold kyN rootE; simp
    rw [e]
    exact c2
  have hrV := root_V h hT
  obtain ⟨I3, J3, m1, m2, m3, m4, m5, m6⟩ := ct_add (γ := γ) (l := l) (I := fillN I2 (a + 5) (-1) 2048) (J := J) (L := []) (e := rootE N) (off := 0) hA (by simp [ndK]) (fun x hx => absurd hx (by simp)) ⟨hrV.1.b.2.1, hrV.1.b.2.2.1⟩ (fun i hi => absurd hi (by simp)) (SlA_nil (fun q hq => fq _ q hq)) (by
    rw [fl _ _ _ (by omega), fr1' _ _ (by omega), up_at, if_pos ⟨rfl, rfl⟩]; rfl) (fun _ => by simp) (by simp)
  have m1' : rMet γ l m_X1_add [.ref a, .long (lN (kyN (rootE N).1.1 (rootE N).1.2)), .int 1, .int 0] (sh, fillN I2 (a + 5) (-1) 2048, J, R) (sh, I3, J3, R) none := m1
  have eI : ins [] (rootE N) = [rootE N] := rfl
  rw [eI] at m2 m4
  refine ⟨I2, c1, _, ct_startLevel hA, _, c2', I3, J3, m1', vp_in_nI (show 0 < 4 by decide) (by decide), ?_⟩
  have e0 : (0 : Int32).toNatClampNeg = 0 := by decide
  rw [e0]
  have smI3 : Sm (Fpr a) I I3 := by
    intro b j z
    rw [m5 _ _ (fun y => z (by unfold Fad at y; unfold Fpr; omega)), fl _ _ _ (fun y => z (by unfold Fpr; omega)), fr1' _ _ (by unfold Fpr at z; omega), up_at, if_neg (fun y => z (by unfold Fpr; omega)), up_at, if_neg (fun y => z (by unfold Fpr; omega))]
  refine outer 3 1 _ J3 (by omega) (Nat.le_refl _) ⟨?_, ?_, ?_, fun d hd => ?_⟩ (smI3.up (Or.inr (by omega))) (fun b j z => m6 b j (fun y => z y.1))
  · rw [up_at, if_neg (by omega), m5 _ _ (by unfold Fad; omega), fl _ _ _ (by omega), fr1' _ _ (by omega), up_at, if_neg (by omega), up_at, if_pos ⟨rfl, rfl⟩]
  · exact EnA.loc (I := I3) m2 (fun b j z _ _ => by rw [up_at, if_neg (by omega)]) (fun _ _ _ => rfl)
  · rw [up_at, if_neg (by omega)]; exact m4
  · have ed : d = 0 := by omega
    subst ed
    rw [up_at, if_pos ⟨rfl, rfl⟩]; exact m4
end PREP
