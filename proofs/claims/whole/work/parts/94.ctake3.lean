/-! ===== the class's reader: operators; the whole text ===== -/
theorem rk_lt4 : ∀ s : Fin 15, rkA s.val < 4 := by decide +kernel
theorem rk_lt5 : ∀ s : Fin 17, rkA s.val < 5 := by decide +kernel
section CTAKE3
variable {γ : rG} {l : Launch} {sh : Nat × (Nat → Nat) × (Nat → Nat)} {I : Nat → Nat → Int32} {J : Nat → Nat → Int64} {R : Nat → Nat → Option Nat} {a p k s v : Nat} {q : Ps}
/-- an operator: what binds as close comes out, then it waits -/
theorem take_opr {A B : List Nat} {q' : Ps} (hA : At4 sh R a) (hR : R a 5 = some p) (hP : At3 sh R p) (hap : a + 1 < p) (hV : V_ps q k) (hk : k < 400) (hC : RC q I a p) (h9 : 9 ≤ s) (h17 : s ≤ 17) (hW : Wq q = A ++ B) (hAr : ∀ x ∈ A, 9 ≤ x ∧ x ≤ 17 ∧ rkA s ≤ rkA x) (hB : ∀ x, B.head? = some x → 8 ≤ x ∧ x ≤ 17 ∧ rkA x < rkA s)
    (hw : qw q ≠ 0) (e1 : Wq q' = s :: B) (e2 : clsC q' = clsC q ++ A.map itm) (e3 : qw q' = 1) (e4 : qd q' = qd q) (e5 : qn q' = qn q) (e6 : qc q' = qc q) (e7 : qe q' = qe q) (e8 : qs q ≠ 0 ∨ qs q' = 0) (e9 : qs q' = if s = 10 ∨ s = 9 then 1 else if 15 ≤ s then qs q else 2) : ∃ I', rMet γ l m_X4_takeOperator [.ref a, .int (nI s)] (sh, I, J, R) (sh, I', J, R) none ∧ (RC q' I' a p ∧ Sm (Frd a p) I I') := by
  have hln := hV.ln
  have hcnt := hV.2.2.2.2
  have hrk : rkA s ≤ 5 := by
    have : ∀ s : Fin 18, rkA s.val ≤ 5 := by decide +kernel
    exact this ⟨s, by omega⟩
  have hS := hC.1
  rw [hW] at hS hln hcnt
  simp only [List.length_append] at hln hcnt
  obtain ⟨I3, d1, d2, d3⟩ := ct_release (γ := γ) (l := l) (J := J) hA hR hP hap hrk hB A (clsC q) hS (by simp only [List.length_append]; omega) (by omega) hAr
  obtain ⟨I5, f1, f2, f3⟩ := ct_await (γ := γ) (l := l) (J := J) (s := s) hA hap d2 (by omega)
  have fr : ∀ b j, ¬ Frl a p b j → I5 b j = I b j := fun b j z => (f3 b j z).trans (d3 b j z)
  have cu := hC.2.2.2.2 hw
  have fin : ∀ I', (I' = up I5 a 2 1 ∧ qs q' = qs q) ∨ I' = up (up I5 a 2 1) a 3 (nI (qs q')) → RC q' I' a p ∧ Sm (Frd a p) I I' := by
    intro I' hI
    have g : ∀ b j, ¬ (b = a ∧ (j = 2 ∨ j = 3)) → I' b j = I5 b j := by
      intro b j z
      rcases hI with ⟨hI, _⟩ | hI
      · rw [hI, up_at, if_neg (by omega)]
      · rw [hI, up_at, if_neg (by omega), up_at, if_neg (by omega)]
    have g2 : I' a 2 = 1 := by
      rcases hI with ⟨hI, _⟩ | hI
      · rw [hI, up_at, if_pos ⟨rfl, rfl⟩]
      · rw [hI, up_at, if_neg (by omega), up_at, if_pos ⟨rfl, rfl⟩]
    have g3 : I' a 3 = nI (qs q') := by
      rcases hI with ⟨hI, hq⟩ | hI
      · rw [hI, up_at, if_neg (by omega), fr _ _ (by unfold Frl; omega), hq]
        exact hC.2.1.2.1 hw
      · rw [hI, up_at, if_pos ⟨rfl, rfl⟩]
    refine ⟨⟨?_, ⟨by rw [g2, e3]; rfl, fun _ => g3, ?_⟩, ?_, ?_, fun _ => ?_⟩, fun b j z => ?_⟩
    · rw [e1, e2]
      exact RcS.fr (I := I5) f2 (fun b j z => g _ _ (by omega))
    · rw [g _ _ (by omega), fr _ _ (by unfold Frl; omega), e4]; exact hC.2.1.2.2
    · rw [g _ _ (by omega), fr _ _ (by unfold Frl; omega), e5]; exact hC.2.2.1
    · rw [e5]
      exact hC.2.2.2.1.fr (fun b j z1 z2 _ => by rw [g _ _ (by omega), fr _ _ (by unfold Frl; omega)])
    · have hb : ∀ b j, p + 1 ≤ b → b ≤ p + 4 → I' b j = I b j := fun b j z1 z2 => by rw [g _ _ (by omega), fr _ _ (by unfold Frl; omega)]
      have c1 : q'.2.2.1 = q.2.2.1 := e5
      have c2 : q'.2.2.2.1.1 = q.2.2.2.1.1 := e6
      have c3 : q'.2.2.2.1.2.1 = q.2.2.2.1.2.1 := e7
      unfold CuC at cu ⊢
      rw [c1, c2, c3]
      refine ⟨(hb _ _ (by omega) (by omega)).trans cu.1, (hb _ _ (by omega) (by omega)).trans cu.2.1, fun z => (hb _ _ (by omega) (by omega)).trans (cu.2.2 ?_)⟩
      rcases e8 with e8 | e8
      · exact e8
      · exact absurd e8 z
    · rw [g _ _ (by unfold Frd at z; omega), fr _ _ (fun y => z (Frl_Frd y))]
  have v10 : (nI s = 10) ↔ s = 10 := nI_eq (b := 10) (by omega) (by decide)
  have v9 : (nI s = 9) ↔ s = 9 := nI_eq (b := 9) (by omega) (by decide)
  have v15 : ((15 : Int32) ≤ nI s) ↔ 15 ≤ s := nI_leI (a := 15) (by decide) (by omega)
  obtain ⟨I', q1, q2⟩ := rW_ex (γ := γ) (l := l) (sh := sh) (J := J) (R := R) (r := none) (F := fun I' => RC q' I' a p ∧ Sm (Frd a p) I I') (w_X4_takeOperator_0 (I := I) (J := J) (x1 := nI s) hA (by
    rw [v10, v9, v15]
    refine ⟨_, ct_rank (by omega) h17, I3, d1, I5, f1, fun z => ⟨_, rfl, rfl, fin _ (Or.inr ?_)⟩, fun z1 => ⟨fun z => ⟨_, rfl, rfl, fin _ (Or.inr ?_)⟩, fun z2 => ⟨fun z => ⟨_, rfl, rfl, fin _ (Or.inl ⟨rfl, ?_⟩)⟩, fun z => ⟨_, rfl, rfl, fin _ (Or.inr ?_)⟩⟩⟩⟩
    · rw [e9, if_pos (Or.inl z)]; rfl
    · rw [e9, if_pos (Or.inr z)]; rfl
    · rw [e9, if_neg (by omega), if_pos z]
    · rw [e9, if_neg (by omega), if_neg z]; rfl))
  exact ⟨I', e_X4_takeOperator q1, q2⟩
theorem head_app {L M : List Nat} {x : Nat} (h : (L ++ M).head? = some x) : L.head? = some x ∨ (L = [] ∧ M.head? = some x) := by
  cases L with
  | nil => exact Or.inr ⟨rfl, h⟩
  | cons y r => exact Or.inl h
theorem suf_hd {x : Nat} (hV : V_ps q k) (h : (sufW (qs q) q.2.2).head? = some x) : 9 ≤ x ∧ x ≤ 14 := by
  have hx : x ∈ sufW (qs q) q.2.2 := List.mem_of_head? h
  unfold sufW at hx
  rcases List.mem_append.mp hx with z | z
  · by_cases h2 : qs q = 2
    · rw [if_pos h2] at z
      have z : x = 11 + qk q := by simpa using z
      have := (hV.2.2.1.2.2.2.1 h2).2
      omega
    · rw [if_neg h2] at z; simp at z
  · by_cases h0 : qs q = 0
    · rw [if_pos h0] at z; simp at z
    · rw [if_neg h0] at z
      have := pwA_mem z
      omega
theorem ct_take (hA : At4 sh R a) (hR : R a 5 = some p) (hP : At3 sh R p) (hap : a + 1 < p) (hV : V_ps q k) (hC : RC q I a p) (hf : fauA q s k = 0) (ht : TkOk s v) {x : Int32} (hx : x = nI v) : ∃ I', rMet γ l m_X4_take [.ref a, .int (nI s), .int x] (sh, I, J, R) (sh, I', J, R) none ∧ (RC (stpP q s v) I' a p ∧ Sm (Frd a p) I I') := by
  subst hx
  obtain ⟨hg, hk, h4, h8⟩ := fau0 hf
  have o1 := hV.2.1.1
  have h17 := ht.1
  have ev : ∀ c : Nat, c < 2 ^ 31 → ((nI s = nI c) ↔ s = c) := fun c hc => nI_eq (by omega) hc
  have v2 : (nI s = 2) ↔ s = 2 := ev 2 (by decide)
  have v3 : (nI s = 3) ↔ s = 3 := ev 3 (by decide)
  have v4 : (nI s = 4) ↔ s = 4 := ev 4 (by decide)
  have v5 : (nI s = 5) ↔ s = 5 := ev 5 (by decide)
  have v6 : (nI s = 6) ↔ s = 6 := ev 6 (by decide)
  have v7 : (nI s = 7) ↔ s = 7 := ev 7 (by decide)
  have v8 : (nI s = 8) ↔ s = 8 := ev 8 (by decide)
  obtain ⟨I', q1, q2⟩ := rW_ex (γ := γ) (l := l) (sh := sh) (J := J) (R := R) (r := none) (F := fun I' => RC (stpP q s v) I' a p ∧ Sm (Frd a p) I I') (w_X4_take_0 (I := I) (J := J) (x1 := nI s) (x2 := nI v) hA (by
    rw [v2, v3, v4, v5, v6, v7, v8]
    refine ⟨p, hR, hP, p, hR, hP, p, hR, hP, p, hR, hP, p, hR, hP, fun z2 => ?_, fun z2 => ⟨fun z3 => ?_, fun z3 => ⟨fun z4 => ?_, fun z4 => ⟨fun z5 => ?_, fun z5 => ⟨fun z6 => ?_, fun z6 => ⟨fun z7 => ?_, fun z7 => ⟨fun z8 => ?_, fun z8 => ?_⟩⟩⟩⟩⟩⟩⟩
    · subst z2
      have hw : qw q = 1 := by rcases go_cases hV.1.1 hg with z | z | z <;> omega
      obtain ⟨I4, d1, d2, d3⟩ := take_unit (γ := γ) (l := l) (J := J) (t := (0, v)) (x := nI v) hP hap hV hk hC hw rfl
      exact ⟨I4, d1, _, rfl, rfl, d2, d3⟩
    · subst z3
      have hw : qw q = 1 := by rcases go_cases hV.1.1 hg with z | z | z <;> omega
      obtain ⟨I4, d1, d2, d3⟩ := take_unit (γ := γ) (l := l) (J := J) (t := (1, v)) (x := -100 - nI v) hP hap hV hk hC hw rfl
      exact ⟨I4, d1, _, rfl, rfl, d2, d3⟩
    · subst z4
      have hw : qw q = 0 := by rcases go_cases hV.1.1 hg with z | z | z <;> omega
      obtain ⟨I4, d1, d2, d3⟩ := take_rule (γ := γ) (l := l) (J := J) (v := v) hP hap hV hC hw (h4 rfl)
      exact ⟨I4, d1, _, rfl, rfl, d2, d3⟩
    · subst z5
      have hw : qw q = 2 ∧ qd q = 0 ∧ qs q = 0 := by
        have := hV.1.2.1
        rcases go_cases hV.1.1 hg with z | z | z <;> omega
      obtain ⟨I3, I4, d0, d1, d2, d3⟩ := take_if (γ := γ) (l := l) (J := J) (v := v) hA hR hP hap hV hk hC hw.1 hw.2.1 hw.2.2
      exact ⟨I3, d0, I4, d1, _, rfl, rfl, d2, d3⟩
    · subst z6
      have hw : qw q = 2 ∧ qd q = 0 ∧ qs q ≠ 1 := by
        rcases go_cases hV.1.1 hg with z | z | z <;> omega
      obtain ⟨I3, I4, d0, d1, d2, d3, d4⟩ := take_semi (γ := γ) (l := l) (J := J) (v := v) hA hR hP hap hV hk hC hw.1 hw.2.1 hw.2.2
      refine ⟨I3, d0, fun z => ?_, fun z => ?_⟩
      · have h0 : qs q = 0 := by
          rw [d1] at z
          have := hV.1.2.1
          exact (nI_eq (b := 0) (by omega) (by decide)).mp z
        rw [if_pos h0] at d2
        exact ⟨I4, d2, _, rfl, rfl, d3, d4⟩
      · have h0 : qs q ≠ 0 := fun h0 => z (by rw [d1, h0]; rfl)
        rw [if_neg h0] at d2
        exact ⟨I4, d2, _, rfl, rfl, d3, d4⟩
    · subst z7
      have hw : qw q = 2 ∧ 0 < qd q := by
        rcases go_cases hV.1.1 hg with z | z | z <;> omega
      obtain ⟨I4, d1, d2, d3⟩ := take_close (γ := γ) (l := l) (J := J) (v := v) hA hR hP hap hV hk hC hw.1 hw.2
      exact ⟨I4, d1, _, rfl, rfl, d2, d3⟩
    · subst z8
      have hw : qw q = 1 := by rcases go_cases hV.1.1 hg with z | z | z <;> omega
      obtain ⟨I4, d1, d2, d3⟩ := take_open (γ := γ) (l := l) (J := J) hA hap hV hC hw
      exact ⟨I4, d1, _, rfl, rfl, d2, d3⟩
    · have hcs : qw q = 2 ∧ (15 ≤ s ∨ (qd q = 0 ∧ ((qs q = 1 ∧ 11 ≤ s ∧ s ≤ 14) ∨ (qs q = 2 ∧ (s = 10 ∨ s = 9))))) := by
        rcases go_cases hV.1.1 hg with z | z | z <;> omega
      obtain ⟨hw, hcs⟩ := hcs
      have main : ∃ I', rMet γ l m_X4_takeOperator [.ref a, .int (nI s)] (sh, I, J, R) (sh, I', J, R) none ∧ (RC (stpP q s v) I' a p ∧ Sm (Frd a p) I I') := by
        rcases hcs with h15 | ⟨hd, hcs⟩
        · by_cases e17 : s = 17
          · subst e17
            have hsp : (qo q).takeWhile isT ++ (qo q).dropWhile isT = qo q := List.takeWhile_append_dropWhile
            obtain ⟨t1, t2⟩ := okO_dropT o1
            refine take_opr (A := (qo q).takeWhile isT) (B := (qo q).dropWhile isT ++ sufW (qs q) q.2.2) (q' := ((1, qs q, qd q), (17 :: (qo q).dropWhile isT, qx q ++ ((qo q).takeWhile isT).map itm), q.2.2)) hA hR hP hap hV hk hC (by decide) (by decide) (by rw [← List.append_assoc, hsp]; rfl) (fun x hx => ?_) (fun x hx => ?_) (by omega) rfl (by rw [clsC_eq, clsC_eq q, List.append_assoc]) rfl rfl rfl rfl rfl ?_ rfl
            · have : x = 17 := by
                have : isT x = true := by
                  have := List.all_takeWhile (p := isT) (l := qo q)
                  exact List.all_eq_true.mp this x hx
                exact of_decide_eq_true this
              subst this
              exact ⟨by decide, by decide, Nat.le_refl _⟩
            · rcases head_app hx with z | ⟨_, z⟩
              · have n17 := t2 x z
                have := okO_cases t1 x (List.mem_of_head? z)
                refine ⟨by omega, by omega, rk_lt5 ⟨x, by omega⟩⟩
              · have := suf_hd hV z
                exact ⟨by omega, by omega, rk_lt5 ⟨x, by omega⟩⟩
            · by_cases z : qs q = 0
              · exact Or.inr z
              · exact Or.inl z
          · have h15' : s = 15 ∨ s = 16 := by omega
            rw [stp15 h15']
            have hrs : rkA s = 4 := by rcases h15' with z | z <;> subst z <;> rfl
            have hsp : (qo q).takeWhile isB ++ (qo q).dropWhile isB = qo q := List.takeWhile_append_dropWhile
            obtain ⟨t1, t2⟩ := okO_drop o1
            refine take_opr (A := (qo q).takeWhile isB) (B := (qo q).dropWhile isB ++ sufW (qs q) q.2.2) (q' := ((1, qs q, qd q), (s :: (qo q).dropWhile isB, qx q ++ ((qo q).takeWhile isB).map itm), q.2.2)) hA hR hP hap hV hk hC (by omega) (by omega) (by rw [← List.append_assoc, hsp]; rfl) (fun x hx => ?_) (fun x hx => ?_) (by omega) rfl (by rw [clsC_eq, clsC_eq q, List.append_assoc]) rfl rfl rfl rfl rfl ?_ ?_
            · have b1 : 15 ≤ x := of_decide_eq_true (tw_all isB (fun x z => z) (qo q) x hx)
              have b2 := okO_cases o1 x ((List.takeWhile_sublist isB).subset hx)
              have := rk_B ⟨x, by omega⟩ b1
              exact ⟨by omega, by omega, by rw [hrs]; exact this⟩
            · rw [hrs]
              rcases head_app hx with z | ⟨_, z⟩
              · have := t2 x z
                subst this
                exact ⟨by decide, by decide, by decide⟩
              · have := suf_hd hV z
                exact ⟨by omega, by omega, rk_lt4 ⟨x, by omega⟩⟩
            · by_cases z : qs q = 0
              · exact Or.inr z
              · exact Or.inl z
            · show qs q = _
              rw [if_neg (by omega), if_pos h15]
        · rcases hcs with ⟨s1, h11⟩ | ⟨s2, h9⟩
          · rw [stp11 h11]
            have hrs : rkA s = 3 := by
              have : s = 11 ∨ s = 12 ∨ s = 13 ∨ s = 14 := by omega
              rcases this with z | z | z | z <;> subst z <;> rfl
            refine take_opr (A := qo q) (B := pwA (qr q) (qf q)) (q' := ((1, 2, 0), ([], []), qn q, (qc q, qe q, qr q), (qf q, s - 11, fl q))) hA hR hP hap hV hk hC (by omega) (by omega) ?_ (fun x hx => ?_) (fun x hx => ?_) (by omega) ?_ ?_ rfl ?_ rfl rfl rfl ?_ ?_
            · simp [Wq, s1]
            · have b2 := okO_cases o1 x hx
              rw [hd] at o1
              have b1 : 15 ≤ x := of_decide_eq_true (okO_0 o1 x hx)
              have := rk_B ⟨x, by omega⟩ b1
              simp only at this
              exact ⟨by omega, by omega, by omega⟩
            · have := pwA_mem (List.mem_of_head? hx)
              rw [hrs]
              rcases this with z | z <;> subst z <;> exact ⟨by decide, by decide, by decide⟩
            · show [] ++ ([11 + (s - 11)] ++ pwA (qr q) (qf q)) = _
              rw [show 11 + (s - 11) = s by omega]
              rfl
            · simp [clsC, curC, s1, fl]
            · exact hd.symm
            · exact Or.inl (by omega)
            · show 2 = _
              rw [if_neg (by omega), if_neg (by omega)]
          · rw [stp9 h9]
            have hwr := hV.wr hd
            have ei : itm (11 + qk q) = (5 + qk q, 0) := by
              have := (hV.2.2.1.2.2.2.1 s2).2
              have h4 : qk q = 0 ∨ qk q = 1 ∨ qk q = 2 ∨ qk q = 3 := by omega
              rcases h4 with z | z | z | z <;> rw [z] <;> rfl
            rcases h9 with h10 | h9
            · subst h10
              obtain ⟨A, B, g1, g2, g3, g4, g5⟩ := emA_and (qf q, qk q, ql q, fl q) (qr q)
              have hWA : Wq q = (qo q ++ ([11 + qk q] ++ A)) ++ B := by
                have g1 : pwA (qr q) (qf q) = A ++ B := g1
                simp [Wq, s2, g1]
              refine take_opr (s := 10) (A := qo q ++ ([11 + qk q] ++ A)) (B := B) (q' := ((1, 1, 0), ([], []), qn q, (qc q, qe q, rlA q), (decide (10 = 9), 0, []))) hA hR hP hap hV hk hC (by decide) (by decide) hWA (fun x hx => ?_) (fun x hx => ?_) (by omega) ?_ ?_ rfl hd.symm rfl rfl rfl (Or.inl (by omega)) rfl
              · have hm := hwr x (by rw [hWA]; exact List.mem_append_left _ hx)
                refine ⟨hm.1, hm.2.1, ?_⟩
                have n9 : x ≠ 9 := by
                  intro e
                  subst e
                  rcases List.mem_append.mp hx with z | z
                  · rw [hd] at o1
                    exact absurd (okO_0 o1 _ z) (by decide)
                  · rcases List.mem_append.mp z with z | z
                    · have z : 9 = 11 + qk q := by simpa using z
                      omega
                    · rcases g2 with y | y <;> rw [y] at z <;> simp at z
                have : ∀ s : Fin 18, 10 ≤ s.val → 2 ≤ rkA s.val := by decide +kernel
                exact this ⟨x, by omega⟩ (by show 10 ≤ x; omega)
              · rcases g3 with y | y
                · rw [y] at hx; simp at hx
                · rw [y] at hx
                  have hx : 9 = x := by simpa using hx
                  subst hx
                  exact ⟨by decide, by decide, by decide⟩
              · have k2 : pwA (rlA q) false = 10 :: B := g5 hV.2.2.1.2.2.2.2.2
                show [] ++ ([] ++ pwA (rlA q) false) = _
                rw [k2]
                rfl
              · have k1 : emA (rlA q) false = emA (qr q) (qf q) ++ (relJ (qf q, qk q, ql q, fl q) ++ A.map itm) := g4
                show codes (qn q) ++ (qe q ++ (emA (rlA q) false ++ ([] ++ []))) = _
                rw [k1]
                simp [clsC, curC, s2, relJ, fl, ei]
            · subst h9
              obtain ⟨g1, g2⟩ := emA_or (qf q, qk q, ql q, fl q) (qr q)
              refine take_opr (s := 9) (A := Wq q) (B := []) (q' := ((1, 1, 0), ([], []), qn q, (qc q, qe q, rlA q), (decide (9 = 9), 0, []))) hA hR hP hap hV hk hC (by decide) (by decide) (List.append_nil _).symm (fun x hx => ?_) (fun x hx => by simp at hx) (by omega) ?_ ?_ rfl hd.symm rfl rfl rfl (Or.inl (by omega)) rfl
              · exact hwr x hx
              · have k2 : pwA (rlA q) true = [9] := g2
                show [] ++ ([] ++ pwA (rlA q) true) = _
                rw [k2]
                rfl
              · have k1 : emA (rlA q) true = emA (qr q) (qf q) ++ (relJ (qf q, qk q, ql q, fl q) ++ (pwA (qr q) (qf q)).map itm) := g1
                show codes (qn q) ++ (qe q ++ (emA (rlA q) true ++ ([] ++ []))) = _
                rw [k1]
                simp [clsC, curC, Wq, s2, relJ, fl, ei]
      obtain ⟨I4, d1, d2, d3⟩ := main
      exact ⟨I4, d1, I4, rfl, rfl, d2, d3⟩))
  exact ⟨I', e_X4_take q1, q2⟩
end CTAKE3
