/-! ===== the class's reader: a token is taken ===== -/
abbrev Pr : Type := List Rul × (Nat × List Itm × List Rl) × (Bool × Nat × List Itm)
def preC (sd : Nat) (r : Pr) : List Itm := codes r.1 ++ (if sd = 0 then [] else r.2.1.2.1 ++ (emA r.2.1.2.2 r.2.2.1 ++ (if sd = 2 then r.2.2.2.2 else [])))
def sufW (sd : Nat) (r : Pr) : List Nat := (if sd = 2 then [11 + r.2.2.2.1] else []) ++ (if sd = 0 then [] else pwA r.2.1.2.2 r.2.2.1)
theorem clsC_eq (q : Ps) : clsC q = preC (qs q) q.2.2 ++ qx q := by
  unfold clsC curC preC
  by_cases h : qs q = 0
  · simp [h]
  · simp [h]
theorem Wq_eq (q : Ps) : Wq q = qo q ++ sufW (qs q) q.2.2 := rfl
def offs (dn : List Rul) (r : Nat) : Nat := (codes (dn.take r)).length
def TbC (I : Nat → Nat → Int32) (p : Nat) (dn : List Rul) : Prop := ∀ r, r < dn.length → I (p + 1) r = nI (gR dn r).1 ∧ I (p + 2) r = nI (offs dn r) ∧ I (p + 3) r = nI (offs dn r + (gR dn r).2.1.length) ∧ I (p + 4) r = nI (offs dn r + (gR dn r).2.1.length + (cndT (gR dn r).2.2).length)
/-- the rule under way -/
def CuC (I : Nat → Nat → Int32) (p sd : Nat) (r : Pr) : Prop := I (p + 1) r.1.length = nI r.2.1.1 ∧ I (p + 2) r.1.length = nI (codes r.1).length ∧ (sd ≠ 0 → I (p + 3) r.1.length = nI ((codes r.1).length + r.2.1.2.1.length))
def RC (q : Ps) (I : Nat → Nat → Int32) (a p : Nat) : Prop := RcS I a p (Wq q) (clsC q) ∧ (I a 2 = nI (qw q) ∧ (qw q ≠ 0 → I a 3 = nI (qs q)) ∧ I a 4 = nI (qd q)) ∧ (I p 0 = nI (qn q).length ∧ TbC I p (qn q) ∧ (qw q ≠ 0 → CuC I p (qs q) q.2.2))
def Frd (a p : Nat) : Nat → Nat → Prop := fun b j => (b = a ∧ 1 ≤ j ∧ j ≤ 4) ∨ b = a + 1 ∨ (p ≤ b ∧ b ≤ p + 5)
theorem Frl_Frd {a p b j : Nat} (h : Frl a p b j) : Frd a p b j := by unfold Frl at h; unfold Frd; omega
theorem TbC.fr {I I' : Nat → Nat → Int32} {p : Nat} {dn : List Rul} (h : TbC I p dn) (hq : ∀ b j, p + 1 ≤ b → b ≤ p + 4 → j < dn.length → I' b j = I b j) : TbC I' p dn := by
  intro r hr
  obtain ⟨h1, h2, h3, h4⟩ := h r hr
  exact ⟨(hq _ _ (by omega) (by omega) hr).trans h1, (hq _ _ (by omega) (by omega) hr).trans h2, (hq _ _ (by omega) (by omega) hr).trans h3, (hq _ _ (by omega) (by omega) hr).trans h4⟩
theorem CuC.fr {I I' : Nat → Nat → Int32} {p sd : Nat} {r : Pr} (h : CuC I p sd r) (hq : ∀ b j, p + 1 ≤ b → b ≤ p + 4 → I' b j = I b j) : CuC I' p sd r :=
  ⟨(hq _ _ (by omega) (by omega)).trans h.1, (hq _ _ (by omega) (by omega)).trans h.2.1, fun z => (hq _ _ (by omega) (by omega)).trans (h.2.2 z)⟩
section CTAKE
variable {γ : rG} {l : Launch} {sh : Nat × (Nat → Nat) × (Nat → Nat)} {I : Nat → Nat → Int32} {J : Nat → Nat → Int64} {R : Nat → Nat → Option Nat} {a p k s v : Nat} {q : Ps}
theorem ct_faultOf (hA : At4 sh R a) (hR : R a 5 = some p) (hP : At3 sh R p) (hV : V_ps q k) (hC : RC q I a p) (hs : s ≤ 17) (hk : k ≤ 400) : rMet γ l m_X4_faultOf [.ref a, .int (nI s), .int (nI k)] (sh, I, J, R) (sh, I, J, R) (some (.int (nI (fauA q s k)))) := by
  have h16 := hV.2.2.2.1.1
  have hd6 := hV.2.1.2.1
  refine e_X4_faultOf (rW_pure (w_X4_faultOf_0 hA ⟨_, ct_goesOnR hA hV.1.1 hV.1.2.1 hd6 hC.2.1.1 hC.2.1.2.1 hC.2.1.2.2 hs, p, hR, hP, fun z => ?_, fun z => ?_⟩))
  · have hg : goB q s = false := by revert z; cases goB q s <;> simp [nz]
    refine ⟨rfl, ?_⟩
    unfold fauA; rw [if_pos hg]; rfl
  · have hg : goB q s = true := by revert z; cases goB q s <;> simp [nz]
    have ef : fauA q s k = if 400 ≤ k ∨ (s = 4 ∧ 16 ≤ (qn q).length) ∨ (s = 8 ∧ 6 ≤ qd q) then 2 else 0 := by
      show (if goB q s = false then _ else _) = _
      rw [if_neg (by rw [hg]; decide)]
    rw [ef]
    have v4 : (nI s = 4) ↔ s = 4 := nI_eq (b := 4) (by omega) (by decide)
    have v8 : (nI s = 8) ↔ s = 8 := nI_eq (b := 8) (by omega) (by decide)
    have vk : ((400 : Int32) ≤ nI k) ↔ 400 ≤ k := nI_leI (a := 400) (by decide) (by omega)
    have vn : ((16 : Int32) ≤ I p 0) ↔ 16 ≤ (qn q).length := by rw [hC.2.2.1]; exact nI_leI (a := 16) (by decide) (by omega)
    have vd : (I a 4 < 6) ↔ qd q < 6 := by rw [hC.2.1.2.2]; exact nI_ltI (b := 6) (by omega) (by decide)
    have t34 : ¬ 400 ≤ k → ¬ (s = 4 ∧ 16 ≤ (qn q).length) → s_X4_faultOf_34 γ l a (nI s) (sh, I, J, R) (fun hf r => hf = (sh, I, J, R) ∧ r = some (.int (nI (if 400 ≤ k ∨ (s = 4 ∧ 16 ≤ (qn q).length) ∨ (s = 8 ∧ 6 ≤ qd q) then 2 else 0)))) := by
      intro z1 z2
      refine w_X4_faultOf_34 hA ?_
      rw [v8, vd]
      refine ⟨fun z3 => ⟨fun z4 => ⟨rfl, by rw [if_neg (by omega)]; rfl⟩, fun z4 => ⟨rfl, by rw [if_pos (by omega)]; rfl⟩⟩, fun z3 => ⟨rfl, by rw [if_neg (by omega)]; rfl⟩⟩
    rw [vk, v4, vn]
    refine ⟨fun z1 => ⟨rfl, by rw [if_pos (Or.inl z1)]; rfl⟩, fun z1 => ⟨fun z2 => ⟨fun z3 => ⟨rfl, by rw [if_pos (by omega)]; rfl⟩, fun z3 => t34 z1 (by omega)⟩, fun z2 => t34 z1 (by omega)⟩⟩
/-- the expression goes on: stack and steps are given, wants and depth written -/
theorem RC.ex {I' : Nat → Nat → Int32} {q' : Ps} (hap : a + 1 < p) (hC : RC q I a p) (hw : qw q ≠ 0) (e1 : q'.2.2 = q.2.2) (e2 : qs q' = qs q) (hS : RcS I' a p (qo q' ++ sufW (qs q) q.2.2) (preC (qs q) q.2.2 ++ qx q')) (h2 : I' a 2 = nI (qw q')) (h4 : I' a 4 = nI (qd q')) (hq : ∀ b j, (b = a ∧ j = 3) ∨ (b = p ∧ j = 0) ∨ (p + 1 ≤ b ∧ b ≤ p + 4) → I' b j = I b j) : RC q' I' a p := by
  obtain ⟨g1, g2, g3⟩ := q
  obtain ⟨b1, b2, b3⟩ := q'
  have e1 : b3 = g3 := e1
  subst e1
  have e2 : b1.2.1 = g1.2.1 := e2
  have cu := hC.2.2.2.2 hw
  refine ⟨?_, ⟨h2, fun _ => ?_, h4⟩, (hq _ _ (by omega)).trans hC.2.2.1, hC.2.2.2.1.fr (fun b j z1 z2 _ => hq _ _ (by omega)), fun _ => ?_⟩
  · rw [clsC_eq, Wq_eq]
    show RcS I' a p (b2.1 ++ sufW b1.2.1 b3) (preC b1.2.1 b3 ++ b2.2)
    rw [e2]
    exact hS
  · show I' a 3 = nI b1.2.1
    rw [e2, hq _ _ (by omega)]
    exact hC.2.1.2.1 hw
  · show CuC I' p b1.2.1 b3
    rw [e2]
    exact cu.fr (fun b j z1 z2 => hq _ _ (by omega))
theorem RcS.fr {I' : Nat → Nat → Int32} {W : List Nat} {S : List Itm} (h : RcS I a p W S) (hq : ∀ b j, (b = a ∧ j = 1) ∨ b = a + 1 ∨ (b = p ∧ j = 1) ∨ b = p + 5 → I' b j = I b j) : RcS I' a p W S :=
  ⟨(hq _ _ (by omega)).trans h.1, h.2.1.loc _ (fun j _ => hq _ _ (by omega)), (hq _ _ (by omega)).trans h.2.2.1, h.2.2.2.loc _ _ (fun j _ _ => hq _ _ (by omega))⟩
/-- an int or a name -/
theorem take_unit {t : Itm} {x : Int32} (hP : At3 sh R p) (hap : a + 1 < p) (hV : V_ps q k) (hk : k < 400) (hC : RC q I a p) (hw : qw q = 1) (hx : x = encJ t) : ∃ I4, rMet γ l m_X3_emit [.ref p, .int x] (sh, I, J, R) (sh, I4, J, R) none ∧ RC ((2, qs q, qd q), (qo q, qx q ++ [t]), q.2.2) (up I4 a 2 2) a p ∧ Sm (Frd a p) I (up I4 a 2 2) := by
  have hcnt := hV.2.2.2.2
  obtain ⟨I4, d1, d2, d3, d4⟩ := ct_emitC (γ := γ) (l := l) (J := J) hP hC.1.2.2.1 hC.1.2.2.2 (show (clsC q).length < 400 by omega) hx
  refine ⟨I4, d1, ?_, (d4.mono (fun b j z => by unfold Frd; omega)).up (Or.inl ⟨rfl, by decide, by decide⟩)⟩
  refine RC.ex (q := q) hap hC (by omega) rfl rfl ?_ (by rw [up_at, if_pos ⟨rfl, rfl⟩]; rfl) ?_ (fun b j z => ?_)
  · show RcS (up I4 a 2 2) a p (Wq q) (preC (qs q) q.2.2 ++ (qx q ++ [t]))
    rw [← List.append_assoc, ← clsC_eq]
    refine ⟨?_, hC.1.2.1.loc _ (fun j _ => ?_), ?_, d3.loc _ _ (fun j _ _ => ?_)⟩
    · rw [up_at, if_neg (by omega), d4 _ _ (by omega)]; exact hC.1.1
    · rw [up_at, if_neg (by omega), d4 _ _ (by omega)]
    · rw [up_at, if_neg (by omega)]; exact d2
    · rw [up_at, if_neg (by omega)]
  · rw [up_at, if_neg (by omega), d4 _ _ (by omega)]; exact hC.2.1.2.2
  · rw [up_at, if_neg (by omega), d4 _ _ (by omega)]
theorem take_open (hA : At4 sh R a) (hap : a + 1 < p) (hV : V_ps q k) (hC : RC q I a p) (hw : qw q = 1) : ∃ I4, rMet γ l m_X4_await [.ref a, .int (nI 8)] (sh, I, J, R) (sh, I4, J, R) none ∧ RC ((1, qs q, qd q + 1), (8 :: qo q, qx q), q.2.2) (up I4 a 4 (I4 a 4 + 1)) a p ∧ Sm (Frd a p) I (up I4 a 4 (I4 a 4 + 1)) := by
  have hln := hV.ln
  obtain ⟨I4, d1, d2, d3⟩ := ct_await (γ := γ) (l := l) (J := J) (s := 8) hA hap hC.1 (by omega)
  refine ⟨I4, d1, ?_, (d3.mono (fun b j z => Frl_Frd z)).up (Or.inl ⟨rfl, by decide, by decide⟩)⟩
  refine RC.ex (q := q) hap hC (by omega) rfl rfl ?_ ?_ ?_ (fun b j z => ?_)
  · show RcS _ a p (8 :: Wq q) _
    rw [← clsC_eq]
    exact d2.fr (fun b j z => by rw [up_at, if_neg (by omega)])
  · rw [up_at, if_neg (by omega), d3 _ _ (by unfold Frl; omega), hC.2.1.1, hw]
  · rw [up_at, if_pos ⟨rfl, rfl⟩, d3 _ _ (by unfold Frl; omega), hC.2.1.2.2, nI_1]
  · rw [up_at, if_neg (by omega), d3 _ _ (by unfold Frl; omega)]
theorem take_rule (hP : At3 sh R p) (hap : a + 1 < p) (hV : V_ps q k) (hC : RC q I a p) (hw : qw q = 0) (hn : (qn q).length < 16) : ∃ I4, rMet γ l m_X3_begin [.ref p, .int (nI v)] (sh, I, J, R) (sh, I4, J, R) none ∧ RC (stpP q 4 v) (up (up I4 a 3 0) a 2 1) a p ∧ Sm (Frd a p) I (up (up I4 a 3 0) a 2 1) := by
  obtain ⟨dn, hq⟩ : ∃ dn, q = ((0, 0, 0), ([], []), dn, (0, [], []), (true, 0, [])) := ⟨_, hV.1.2.2.1 hw⟩
  subst hq
  have hn : dn.length < 16 := hn
  have h0 : I p 0 = nI dn.length := hC.2.2.1
  have e1 : up I (p + 1) dn.length (nI v) p 0 = nI dn.length := by rw [up_at, if_neg (by omega)]; exact h0
  have ecl : clsC ((0, 0, 0), ([], []), dn, (0, [], []), (true, 0, [])) = codes dn := by simp [clsC_eq, preC]
  have hS := hC.1
  rw [ecl] at hS
  have e2 : up I (p + 1) dn.length (nI v) p 1 = nI (codes dn).length := by rw [up_at, if_neg (by omega)]; exact hS.2.2.1
  obtain ⟨I4, q1, q2⟩ := rW_ex (γ := γ) (l := l) (sh := sh) (J := J) (R := R) (r := none) (F := fun I' => I' (p + 1) dn.length = nI v ∧ I' (p + 2) dn.length = nI (codes dn).length ∧ Sm (fun b j => (b = p + 1 ∨ b = p + 2) ∧ j = dn.length) I I') (w_X3_begin_0 (I := I) (J := J) (x1 := nI v) hP (by
    rw [h0, nI_clamp (by omega), e1, nI_clamp (by omega), e2]
    refine ⟨fun z => absurd z (nI_ge hn (by decide)), fun _ => ⟨vp_in_nI hn (by decide), vp_in_nI hn (by decide), _, rfl, rfl, ?_, ?_, (Sm.rf.up ⟨Or.inl rfl, rfl⟩).up ⟨Or.inr rfl, rfl⟩⟩⟩
    · rw [up_at, if_neg (by omega), up_at, if_pos ⟨rfl, rfl⟩]
    · rw [up_at, if_pos ⟨rfl, rfl⟩]))
  obtain ⟨q2, q3, q4⟩ := q2
  refine ⟨I4, e_X3_begin q1, ?_, ((q4.mono (fun b j z => by unfold Frd; omega)).up (Or.inl ⟨rfl, by decide, by decide⟩)).up (Or.inl ⟨rfl, by decide, by decide⟩)⟩
  show RC ((1, 0, 0), ([], []), dn, (v, [], []), (true, 0, [])) _ a p
  refine ⟨?_, ⟨by rw [up_at, if_pos ⟨rfl, rfl⟩]; rfl, fun _ => by rw [up_at, if_neg (by omega), up_at, if_pos ⟨rfl, rfl⟩]; rfl, ?_⟩, ?_, ?_, fun _ => ⟨?_, ?_, fun z => absurd rfl z⟩⟩
  · have : clsC ((1, 0, 0), ([], []), dn, (v, [], []), (true, 0, [])) = codes dn := by simp [clsC_eq, preC]
    rw [this]
    exact hS.fr (fun b j z => by rw [up_at, if_neg (by omega), up_at, if_neg (by omega), q4 _ _ (by omega)])
  · rw [up_at, if_neg (by omega), up_at, if_neg (by omega), q4 _ _ (by omega)]; exact hC.2.1.2.2
  · rw [up_at, if_neg (by omega), up_at, if_neg (by omega), q4 _ _ (by omega)]; exact h0
  · exact hC.2.2.2.1.fr (fun b j z1 z2 z3 => by
      have z3 : j < dn.length := z3
      rw [up_at, if_neg (by omega), up_at, if_neg (by omega), q4 _ _ (by omega)])
  · show (up (up I4 a 3 0) a 2 1) (p + 1) dn.length = _
    rw [up_at, if_neg (by omega), up_at, if_neg (by omega)]; exact q2
  · show (up (up I4 a 3 0) a 2 1) (p + 2) dn.length = _
    rw [up_at, if_neg (by omega), up_at, if_neg (by omega)]; exact q3
end CTAKE
