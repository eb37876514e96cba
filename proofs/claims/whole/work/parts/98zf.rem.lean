/-! ===== all rows, as the model goes through them ===== -/
def subE (N : Nat) : Nat → En → List En
  | 0, e => [e]
  | r + 1, e => (kidsE N e).flatMap (subE N r)
theorem subE_flat (N : Nat) : ∀ r e, subE N (r + 1) e = (subE N r e).flatMap (kidsE N) := by
  intro r
  induction r with
  | zero =>
    intro e
    show (kidsE N e).flatMap (fun x => [x]) = [e].flatMap (kidsE N)
    simp
  | succ r ih =>
    intro e
    show (kidsE N e).flatMap (subE N (r + 1)) = ((kidsE N e).flatMap (subE N r)).flatMap (kidsE N)
    rw [List.flatMap_assoc]
    congr 1
    funext x
    exact ih x
theorem Sq_sub (N : Nat) : ∀ d, Sq N d = subE N d (rootE N) := by
  intro d
  induction d with
  | zero => rfl
  | succ d ih => rw [subE_flat]; simp only [Sq]; rw [ih]
theorem kid_sub {N : Nat} {e x : En} (h : x ∈ kidsE N e) : (∀ k, e.1.1.testBit k = true → x.1.1.testBit k = true) ∧ x.2.1 = e.2.1 := by
  obtain ⟨t, ht, rfl⟩ := List.mem_map.mp h
  obtain ⟨y, sd, d, _, _, _, _, _, q6⟩ := mem_kids ht
  refine ⟨fun k hk => ?_, rfl⟩
  show t.2.1.testBit k = true
  rw [q6]
  show (kidM N e.1.1 e.1.2 y sd d).testBit k = true
  unfold kidM
  rw [Nat.testBit_or, hk]
  rfl
/-- marks stay -/
theorem sub_mono (N : Nat) : ∀ r (e x : En), x ∈ subE N r e → (∀ k, e.1.1.testBit k = true → x.1.1.testBit k = true) ∧ x.2.1 = e.2.1 := by
  intro r
  induction r with
  | zero => intro e x hx; rw [List.mem_singleton.mp hx]; exact ⟨fun _ h => h, rfl⟩
  | succ r ih =>
    intro e x hx
    obtain ⟨y, hy, hxy⟩ := List.mem_flatMap.mp hx
    obtain ⟨h1, h2⟩ := ih y x hxy
    obtain ⟨h3, h4⟩ := kid_sub hy
    exact ⟨fun k hk => h1 k (h3 k hk), h2.trans h4⟩
theorem sub_bad {N r : Nat} {F : Fnd} {e x : En} (hx : x ∈ subE N r e) (h : ¬ sbC N F (onm N F e)) : ¬ sbC N F (onm N F x) := by
  intro z
  refine h (fun k hk => z k ?_)
  unfold onm at hk ⊢
  rw [Nat.testBit_and] at hk ⊢
  rw [Bool.and_eq_true] at hk ⊢
  exact ⟨(sub_mono N r e x hx).1 k hk.1, hk.2⟩
/-- what the model knows behind the rows X -/
def ReM (I : Nat → Nat → Int32) (m N : Nat) (F : Fnd) (X : List En) : Prop := FtS I m (wsum (EkK N F) X) ((fst1 (pE N F) X).map (rowL N F)) ∧ LvS I m (fun y => ∃ e, e ∈ X ∧ sbC N F (onm N F e) ∧ e.1.1 = y)
theorem ReM.fr {I I' : Nat → Nat → Int32} {m N : Nat} {F : Fnd} {X : List En} (h : ReM I m N F X) (hq : ∀ b j, Frw m b j → I' b j = I b j) : ReM I' m N F X :=
  ⟨h.1.loc (hq _ _ (Or.inl (Or.inl ⟨rfl, Or.inl rfl⟩))) (hq _ _ (Or.inl (Or.inl ⟨rfl, Or.inr rfl⟩))) (fun j => hq _ _ (Or.inl (Or.inr rfl))), fun y hy => (hq _ _ (Or.inr rfl)).trans (h.2 y hy)⟩
theorem bad_Ek {N : Nat} {F : Fnd} {e : En} (h : ¬ sbC N F (onm N F e)) : EkK N F e.1 = 0 := by
  unfold EkK
  rw [if_neg (fun z => h (fun k hk => by unfold onm at hk; rw [z] at hk; exact hk))]
theorem bad_list {N : Nat} {F : Fnd} : ∀ Y : List En, (∀ e, e ∈ Y → ¬ sbC N F (onm N F e)) → wsum (EkK N F) Y = 0 ∧ fst1 (pE N F) Y = none := by
  intro Y
  induction Y with
  | nil => intro _; exact ⟨rfl, rfl⟩
  | cons e Y ih =>
    intro h
    obtain ⟨h1, h2⟩ := ih (fun x hx => h x (by simp [hx]))
    have h0 := bad_Ek (h e (by simp))
    have hp : pE N F e.1 = false := decide_eq_false (by omega)
    exact ⟨by simp only [wsum, h0, h1]; omega, by simp only [fst1, hp, h2]; rfl⟩
/-- rows that cannot fit leave nothing behind -/
theorem ReM.skip {I : Nat → Nat → Int32} {m N : Nat} {F : Fnd} {X Y : List En} (h : ReM I m N F X) (hY : ∀ e, e ∈ Y → ¬ sbC N F (onm N F e)) : ReM I m N F (X ++ Y) := by
  obtain ⟨h1, h2⟩ := bad_list Y hY
  refine ⟨?_, fun y hy => ?_⟩
  · rw [wsum_app, fst1_app, h1, h2]
    have e : (fst1 (pE N F) X).or none = fst1 (pE N F) X := by cases fst1 (pE N F) X <;> rfl
    rw [e]
    exact h.1
  · rw [h.2 y hy]
    refine bz_c ⟨?_, ?_⟩
    · rintro ⟨e, e1, e2, e3⟩
      exact ⟨e, List.mem_append_left _ e1, e2, e3⟩
    · rintro ⟨e, e1, e2, e3⟩
      rcases List.mem_append.mp e1 with z | z
      · exact ⟨e, z, e2, e3⟩
      · exact absurd e2 (hY e z)
theorem rowL_end {N : Nat} {F : Fnd} {k : Nat × Nat} {acts : List Nat} : rowL N F (k, acts) = endL acts (lsl (slF N F (unP N k.2))) (sdN N F) := by
  unfold rowL endL sdN
  by_cases h : diN N F = 0
  · simp [h]
  · simp [h]
/-- one row more -/
theorem ReM.push {I' : Nat → Nat → Int32} {m N : Nat} {F : Fnd} {X : List En} {e : En} (hw : e.2.1 = 1) (hg : sbC N F (onm N F e)) (h1 : FtS I' m (wsum (EkK N F) X + if e.1.1 &&& ckN N F = crF N F then (slF N F (unP N e.1.2)).length * soN N F (unP N e.1.2) else 0) (if e.1.1 &&& ckN N F = crF N F then ((fst1 (pE N F) X).map (rowL N F)).or (frO N F (unP N e.1.2) e.2.2 (slO (unP N e.1.2))) else (fst1 (pE N F) X).map (rowL N F))) (h2 : LvS I' m (fun y => (∃ e, e ∈ X ∧ sbC N F (onm N F e) ∧ e.1.1 = y) ∨ y = e.1.1)) : ReM I' m N F (X ++ [e]) := by
  have ek : EkK N F e.1 = if e.1.1 &&& ckN N F = crF N F then (slF N F (unP N e.1.2)).length * soN N F (unP N e.1.2) else 0 := rfl
  refine ⟨?_, fun y hy => ?_⟩
  · have e1 : wsum (EkK N F) (X ++ [e]) = wsum (EkK N F) X + EkK N F e.1 := by
      rw [wsum_app]
      simp [wsum, hw]
    rw [e1, ek, fst1_app]
    have e2 : (((fst1 (pE N F) X).or (fst1 (pE N F) [e])).map (rowL N F)) = (if e.1.1 &&& ckN N F = crF N F then ((fst1 (pE N F) X).map (rowL N F)).or (frO N F (unP N e.1.2) e.2.2 (slO (unP N e.1.2))) else (fst1 (pE N F) X).map (rowL N F)) := by
      have hf : fst1 (pE N F) [e] = if 0 < EkK N F e.1 then some (e.1, e.2.2) else none := by
        simp only [fst1, pE]
        by_cases z : 0 < EkK N F e.1
        · simp [z]
        · simp [z]
      rw [hf, ek]
      by_cases z : e.1.1 &&& ckN N F = crF N F
      · simp only [if_pos z]
        unfold frO
        by_cases z2 : 0 < (slF N F (unP N e.1.2)).length * soN N F (unP N e.1.2)
        · have z3 : 0 < (fltS N F (slO (unP N e.1.2))).length * soN N F (unP N e.1.2) := z2
          rw [if_pos z2, if_pos z3]
          have er : rowL N F (e.1, e.2.2) = endL e.2.2 (lsl (fltS N F (slO (unP N e.1.2)))) (sdN N F) := rowL_end
          cases fst1 (pE N F) X with
          | none => simp only [Option.or, Option.map]; rw [er]
          | some r => rfl
        · have z3 : ¬ 0 < (fltS N F (slO (unP N e.1.2))).length * soN N F (unP N e.1.2) := z2
          rw [if_neg z2, if_neg z3]
          cases fst1 (pE N F) X <;> rfl
      · simp only [if_neg z]
        rw [if_neg (by omega)]
        cases fst1 (pE N F) X <;> rfl
    rw [e2]
    exact h1
  · rw [h2 y hy]
    refine bz_c ⟨?_, ?_⟩
    · rintro (⟨x, x1, x2, x3⟩ | z)
      · exact ⟨x, List.mem_append_left _ x1, x2, x3⟩
      · exact ⟨e, List.mem_append_right _ (by simp), hg, z.symm⟩
    · rintro ⟨x, x1, x2, x3⟩
      rcases List.mem_append.mp x1 with z | z
      · exact Or.inl ⟨x, z, x2, x3⟩
      · rw [List.mem_singleton.mp z] at x3
        exact Or.inr x3.symm
/-! the act behind an act -/
def nxA (W mo x sd g : Nat) : Nat := if g < mo then 100 * x + 10 * sd + (g + 1) else if sd = 0 then 100 * x + 10 else if x + 1 < W then 100 * (x + 1) else 0
section AFT
variable {γ : rG} {l : Launch} {sh : Nat × (Nat → Nat) × (Nat → Nat)} {I : Nat → Nat → Int32} {J : Nat → Nat → Int64} {R : Nat → Nat → Option Nat} {m q x sd g : Nat} {P : Pk}
theorem ct_after (hA : At9 sh R m) (hq : q < 22) (hP : PkV P) (hM : PkM I m q P) (hx : x < pW P) (hsd : sd < 2) (hg : g ≤ mosN P (pW P)) (hm1 : 1 ≤ mosN P (pW P)) : rMet γ l m_X9_after [.ref m, .int (nI q), .int (nI (100 * x + 10 * sd + g))] (sh, I, J, R) (sh, I, J, R) (some (.int (nI (nxA (pW P) (mosN P (pW P)) x sd g)))) := by
  have hmo : mosN P (pW P) ≤ 8 := Nat.le_trans (mosN_le _) hP.2.1
  have hW8 := hP.2.2.2.1
  have mm := ct_mmostLayers (γ := γ) (l := l) (J := J) hA hq hP hM
  have e10 : (10 : Int32) = nI 10 := rfl
  have e100 : (100 : Int32) = nI 100 := rfl
  have d1 : nI (100 * x + 10 * sd + g) / 100 = nI x := by rw [e100, pk_div (by omega) (by decide) (by decide), show (100 * x + 10 * sd + g) / 100 = x by omega]
  have d2 : nI (100 * x + 10 * sd + g) / 10 = nI (10 * x + sd) := by rw [e10, pk_div (by omega) (by decide) (by decide), show (100 * x + 10 * sd + g) / 10 = 10 * x + sd by omega]
  have d3 : nI (10 * x + sd) - nI (10 * x + sd) / 10 * 10 = nI sd := by rw [e10, pk_rem (by omega) (by decide) (by decide), show (10 * x + sd) % 10 = sd by omega]
  have d4 : nI (100 * x + 10 * sd + g) - nI (10 * x + sd) * 10 = nI g := by
    rw [e10, pk_mul, pk_sub (by omega), show 100 * x + 10 * sd + g - (10 * x + sd) * 10 = g by omega]
  have a56 : ∀ x' s' g', x' ≤ 8 → s' ≤ 1 → g' ≤ 9 → s_X9_after_56 γ l m (nI q) (nI x') (nI s') (nI g') (sh, I, J, R) (fun hf r => hf = (sh, I, J, R) ∧ r = some (.int (nI (if x' < pW P then 100 * x' + 10 * s' + g' else 0)))) := by
    intro x' s' g' h1 h2 h3
    refine w_X9_after_56 hA ⟨vp_in_nI hq (by decide), ?_⟩
    rw [nI_clamp (by omega), hM.2.1, nI_leI (by omega) (by omega), e100, e10, pk_mul, pk_mul, nI_add, nI_add]
    exact ⟨fun z => ⟨rfl, by rw [if_neg (by omega)]; rfl⟩, fun z => ⟨rfl, by rw [if_pos (by omega)]⟩⟩
  refine e_X9_after (rW_pure (w_X9_after_0 hA ⟨_, mm, ?_⟩))
  rw [d1, d2, d3, d4, nI_1, nI_leI (by omega) (by omega), show (1 : Int32) = nI 1 from rfl, nI_leI (by omega) (by decide), nI_add]
  have small : s_X9_after_44 γ l m (nI q) (nI x) (nI sd) (nI (g + 1)) (sh, I, J, R) (fun hf r => hf = (sh, I, J, R) ∧ r = some (.int (nI (100 * x + 10 * sd + (g + 1))))) := by
    refine w_X9_after_44 hA ⟨fun _ => ?_, fun z => absurd (nI_le (a := sd) (b := 1) (by omega) (by decide)) z⟩
    have := a56 x sd (g + 1) (by omega) (by omega) (by omega)
    rw [if_pos hx] at this
    exact this
  refine ⟨fun z => ?_, fun z => ⟨fun y => ?_, fun y => ?_⟩⟩
  · unfold nxA
    rw [if_pos (by omega)]
    exact small
  · unfold nxA
    rw [if_pos (by omega)]
    exact small
  · unfold nxA
    rw [if_neg (by omega)]
    refine w_X9_after_44 hA ⟨fun w => ?_, fun w => ?_⟩
    · rw [show (1 : Int32) = nI 1 from rfl, nI_leI (by omega) (by decide)] at w
      have es : sd = 0 := by omega
      subst es
      have := a56 x 1 0 (by omega) (by omega) (by omega)
      rw [if_pos hx] at this
      exact this
    · rw [show (1 : Int32) = nI 1 from rfl, nI_leI (by omega) (by decide)] at w
      rw [if_neg (by omega), nI_1]
      have := a56 (x + 1) 0 0 (by omega) (by omega) (by omega)
      exact this
end AFT
