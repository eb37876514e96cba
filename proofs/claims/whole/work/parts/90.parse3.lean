/-! ===== a step of the reader keeps what holds ===== -/
def TkOk (s v : Nat) : Prop := s ≤ 17 ∧ (s = 2 → v < 10000) ∧ (s = 3 → v < 5) ∧ (s = 4 → v < 6)
theorem go_cases {q : Ps} {s : Nat} (hw : qw q ≤ 2) (h : goB q s = true) : (qw q = 0 ∧ s = 4) ∨ (qw q = 1 ∧ (s = 2 ∨ s = 3 ∨ s = 8)) ∨ (qw q = 2 ∧ (15 ≤ s ∨ (0 < qd q ∧ s = 7) ∨ (qd q = 0 ∧ ((qs q = 1 ∧ 11 ≤ s ∧ s ≤ 14) ∨ (qs q = 2 ∧ (s = 10 ∨ s = 9 ∨ s = 6)) ∨ (qs q ≠ 1 ∧ qs q ≠ 2 ∧ (s = 5 ∨ s = 6)))))) := by
  unfold goB at h
  by_cases h0 : qw q = 0
  · rw [if_pos h0] at h; exact Or.inl ⟨h0, of_decide_eq_true h⟩
  rw [if_neg h0] at h
  by_cases h1 : qw q = 1
  · rw [if_pos h1] at h; exact Or.inr (Or.inl ⟨h1, of_decide_eq_true h⟩)
  rw [if_neg h1] at h
  refine Or.inr (Or.inr ⟨by omega, ?_⟩)
  by_cases h2 : 15 ≤ s
  · exact Or.inl h2
  rw [if_neg h2] at h
  by_cases h3 : 0 < qd q
  · rw [if_pos h3] at h; exact Or.inr (Or.inl ⟨h3, of_decide_eq_true h⟩)
  rw [if_neg h3] at h
  refine Or.inr (Or.inr ⟨by omega, ?_⟩)
  by_cases h4 : qs q = 1
  · rw [if_pos h4] at h; exact Or.inl ⟨h4, of_decide_eq_true h⟩
  rw [if_neg h4] at h
  by_cases h5 : qs q = 2
  · rw [if_pos h5] at h; exact Or.inr (Or.inl ⟨h5, of_decide_eq_true h⟩)
  rw [if_neg h5] at h
  exact Or.inr (Or.inr ⟨h4, h5, of_decide_eq_true h⟩)
theorem fau0 {q : Ps} {s k : Nat} (h : fauA q s k = 0) : goB q s = true ∧ k < 400 ∧ (s = 4 → (qn q).length < 16) ∧ (s = 8 → qd q < 6) := by
  unfold fauA at h
  by_cases h1 : goB q s = false
  · rw [if_pos h1] at h; omega
  rw [if_neg h1] at h
  by_cases h2 : 400 ≤ k ∨ (s = 4 ∧ 16 ≤ (qn q).length) ∨ (s = 8 ∧ 6 ≤ qd q)
  · rw [if_pos h2] at h; omega
  exact ⟨by simpa using h1, by omega, by omega, by omega⟩
theorem stp15 {q : Ps} {s v : Nat} (h : s = 15 ∨ s = 16) : stpP q s v = ((1, qs q, qd q), (s :: (qo q).dropWhile isB, qx q ++ ((qo q).takeWhile isB).map itm), q.2.2) := by
  rcases h with h | h <;> subst h <;> rfl
theorem stp11 {q : Ps} {s v : Nat} (h : 11 ≤ s ∧ s ≤ 14) : stpP q s v = ((1, 2, 0), ([], []), qn q, (qc q, qe q, qr q), (qf q, s - 11, fl q)) := by
  have : s = 11 ∨ s = 12 ∨ s = 13 ∨ s = 14 := by omega
  rcases this with h | h | h | h <;> subst h <;> rfl
theorem stp9 {q : Ps} {s v : Nat} (h : s = 10 ∨ s = 9) : stpP q s v = ((1, 1, 0), ([], []), qn q, (qc q, qe q, rlA q), (decide (s = 9), 0, [])) := by
  rcases h with h | h <;> subst h <;> rfl
theorem rlA_ne (q : Ps) : rlA q ≠ [] := by unfold rlA; simp
/-- out and operators, a step of the expression -/
theorem V_ps.ex {q q' : Ps} {k : Nat} (h : V_ps q k) (hq : qw q ≠ 0) (e1 : q'.2.2 = q.2.2) (e2 : qs q' = qs q) (hw : 1 ≤ qw q' ∧ qw q' ≤ 2) (ho : okO (qo q') (qd q')) (hd : qd q' ≤ 6) (hx : ∀ t ∈ qx q', okJ t ∧ t.1 < 5) (hk : dpK 22 (qx q') 0 (nB (qo q') + (if qw q' = 2 then 1 else 0))) (hc : (qo q').length + (qx q').length ≤ (qo q).length + (qx q).length + 1) : V_ps q' (k + 1) := by
  obtain ⟨⟨a1, a2, a3, a4⟩, _, c, d, e⟩ := h
  obtain ⟨b1, b2, b3⟩ := q'
  obtain ⟨g1, g2, g3⟩ := q
  have e1 : b3 = g3 := e1
  subst e1
  have e2 : b1.2.1 = g1.2.1 := e2
  refine ⟨⟨hw.2, by show b1.2.1 ≤ 2; rw [e2]; exact a2, fun z => absurd z (by omega), fun _ => a4 hq⟩, ⟨ho, hd, hx, hk⟩, ?_, d, ?_⟩
  · unfold qs at c ⊢
    simp only at c ⊢
    rw [e2]
    exact c
  · simp only [Wq, clsC, curC, qs, qo, qx, qn, qe, qr, qf, qk, ql, List.length_append] at e ⊢
    rw [e2]
    have hc : b2.1.length + b2.2.length ≤ g2.1.length + g2.2.length + 1 := hc
    by_cases z : g1.2.1 = 0
    · simp only [if_pos z] at e ⊢
      omega
    · simp only [if_neg z, List.length_append] at e ⊢
      omega
theorem dp_bins {L : List Nat} {d : Nat} {X : List Itm} (p : Nat → Bool) (hp : ∀ x, p x = true → isB x = true) (hX : dpK 22 X 0 (nB L + 1)) : dpK 22 (X ++ (L.takeWhile p).map itm) 0 (nB (L.dropWhile p) + 1) := by
  have e := nB_split p hp L
  refine dpK_app (x := nB L + 1) ?_ _ _ hX
  have := dpK_ops (m := 22) (L.takeWhile p) (nB (L.dropWhile p) + 1) (tw_all p hp L) (by omega)
  rw [show nB (L.dropWhile p) + 1 + (L.takeWhile p).length = nB L + 1 by omega] at this
  exact this
theorem bins_ok {L : List Nat} {d : Nat} {X : List Itm} (p : Nat → Bool) (hp : ∀ x, p x = true → isB x = true) (hO : okO L d) (hX : ∀ t ∈ X, okJ t ∧ t.1 < 5) : ∀ t ∈ X ++ (L.takeWhile p).map itm, okJ t ∧ t.1 < 5 := by
  intro t ht
  rcases List.mem_append.mp ht with e | e
  · exact hX t e
  · obtain ⟨x, hx, rfl⟩ := List.mem_map.mp e
    have b1 : 15 ≤ x := of_decide_eq_true (tw_all p hp L x hx)
    have b2 := okO_cases hO x ((List.takeWhile_sublist p).subset hx)
    exact itm_ok (by omega)
theorem getR_snoc {L : List Rul} {u : Rul} {r : Nat} (hr : r < (L ++ [u]).length) : (r < L.length ∧ gR (L ++ [u]) r = gR L r) ∨ (r = L.length ∧ gR (L ++ [u]) r = u) := by
  simp only [List.length_append, List.length_singleton] at hr
  unfold gR
  by_cases h : r < L.length
  · exact Or.inl ⟨h, by simp [List.getD_eq_getElem?_getD, List.getElem?_append_left h]⟩
  · have e : r = L.length := by omega
    exact Or.inr ⟨e, by rw [e]; simp [List.getD_eq_getElem?_getD]⟩
theorem V_snoc {L : List Rul} {u : Rul} (h : V_prc L) (hl : L.length < 16) (hu : V_rul u) : V_prc (L ++ [u]) := by
  refine ⟨by simp; omega, fun r hr => ?_⟩
  rcases getR_snoc hr with ⟨h1, h2⟩ | ⟨h1, h2⟩
  · rw [h2]; exact h.2 r h1
  · rw [h2]; exact hu
theorem V_rul_mk {c : Nat} {E : List Itm} {L : List Rl} (hc : c < 6) (hE : wfK E) (hL : ∀ r ∈ L, V_relK r) (hf : ∀ r t, L = r :: t → r.1 = true) : V_rul (c, E, L) :=
  ⟨hc, hE.e, fun r hr => (hL r hr).e, fun hn => cndT_dep hn hL, hf⟩

theorem V_fresh {w sd c kk k : Nat} {dn : List Rul} {e lf : List Itm} {rl : List Rl} {f : Bool} (hw : w < 2) (hs : sd ≤ 2) (h0 : w = 0 → sd = 0 ∧ c = 0 ∧ e = [] ∧ rl = [] ∧ f = true ∧ kk = 0 ∧ lf = []) (h16 : w ≠ 0 → dn.length < 16) (hc : c < 6) (he : sd ≠ 0 → wfK e) (hr : ∀ r ∈ rl, V_relK r) (hl : sd = 2 → wfK lf ∧ kk < 4) (hh : ∀ r t, rl = r :: t → r.1 = true) (hf : rl = [] → f = true) (hP : V_prc dn)
    (hcnt : ((if sd = 2 then 1 else 0) + (if sd = 0 then 0 else (pwA rl f).length)) + ((codes dn).length + (if sd = 0 then 0 else e.length + ((emA rl f).length + (if sd = 2 then lf.length else 0)))) ≤ k) : V_ps ((w, sd, 0), ([], []), dn, (c, e, rl), (f, kk, lf)) k := by
  refine ⟨⟨by show w ≤ 2; omega, hs, fun z => ?_, h16⟩, ⟨rfl, Nat.zero_le _, fun t z => absurd (show t ∈ ([] : List Itm) from z) (by simp), ?_⟩, ⟨hc, he, hr, hl, hh, hf⟩, hP, ?_⟩
  · have z : w = 0 := z
    obtain ⟨z1, z2, z3, z4, z5, z6, z7⟩ := h0 z
    subst z; subst z1; subst z2; subst z3; subst z4; subst z5; subst z6; subst z7
    rfl
  · show 0 = 0 + (if w = 2 then 1 else 0)
    rw [if_neg (by omega)]
  · show ([] ++ ((if sd = 2 then [11 + kk] else []) ++ (if sd = 0 then [] else pwA rl f))).length + (codes dn ++ (if sd = 0 then [] else e ++ (emA rl f ++ ((if sd = 2 then lf else []) ++ [])))).length ≤ k
    have hsd : sd = 0 ∨ sd = 1 ∨ sd = 2 := by omega
    rcases hsd with z | z | z <;> subst z <;> simp at hcnt ⊢ <;> omega
theorem V_step {q : Ps} {s v k : Nat} (h : V_ps q k) (hf : fauA q s k = 0) (ht : TkOk s v) : V_ps (stpP q s v) (k + 1) := by
  obtain ⟨hg, hk, h4, h8⟩ := fau0 hf
  obtain ⟨⟨a1, a2, a3, a4⟩, ⟨o1, o2, o3, o4⟩, ⟨c1, c2, c3, c4, c5, c6⟩, hP, hC⟩ := id h
  have hln := h.ln
  have hnb := nB_le (qo q)
  rcases go_cases a1 hg with ⟨w0, hs⟩ | ⟨w1, hs⟩ | ⟨w2, hs⟩
  · subst hs
    have e := a3 w0
    have hn4 := h4 rfl
    have hv := ht.2.2.2 rfl
    have hlen : (codes (qn q)).length ≤ k := by
      have : (clsC q).length ≤ k := by omega
      unfold clsC at this
      simp only [List.length_append] at this
      omega
    show V_ps ((1, 0, 0), ([], []), qn q, (v, [], []), (true, 0, [])) (k + 1)
    exact V_fresh (by decide) (by decide) (fun z => absurd z (by decide)) (fun _ => hn4) hv (fun z => absurd rfl z) (fun r z => absurd z (by simp)) (fun z => absurd z (by decide)) (fun r t z => absurd z (by simp)) (fun _ => rfl) hP (by simp; omega)
  · rw [w1] at o4
    simp only [show ¬ (1 : Nat) = 2 by decide, if_false, Nat.add_zero] at o4
    rcases hs with hs | hs | hs
    · subst hs
      have hv := ht.2.1 rfl
      show V_ps ((2, qs q, qd q), (qo q, qx q ++ [(0, v)]), q.2.2) (k + 1)
      refine h.ex (by omega) rfl rfl ⟨by show 1 ≤ 2; decide, Nat.le_refl _⟩ o1 o2 (fun t z => ?_) ?_ (by show (qo q).length + (qx q ++ [(0, v)]).length ≤ _; simp only [List.length_append, List.length_singleton]; omega)
      · rcases List.mem_append.mp z with z | z
        · exact o3 t z
        · have z : t = (0, v) := by simpa using z
          subst z
          exact ⟨Or.inl ⟨rfl, hv⟩, by show 0 < 5; decide⟩
      · have hu : dpK 22 [(0, v)] (nB (qo q)) (nB (qo q) + 1) := Or.inl ⟨by show 0 < 2; decide, by omega, rfl⟩
        exact dpK_app hu _ _ o4
    · subst hs
      have hv := ht.2.2.1 rfl
      show V_ps ((2, qs q, qd q), (qo q, qx q ++ [(1, v)]), q.2.2) (k + 1)
      refine h.ex (by omega) rfl rfl ⟨by show 1 ≤ 2; decide, Nat.le_refl _⟩ o1 o2 (fun t z => ?_) ?_ (by show (qo q).length + (qx q ++ [(1, v)]).length ≤ _; simp only [List.length_append, List.length_singleton]; omega)
      · rcases List.mem_append.mp z with z | z
        · exact o3 t z
        · have z : t = (1, v) := by simpa using z
          subst z
          exact ⟨Or.inr (Or.inl ⟨rfl, hv⟩), by show 1 < 5; decide⟩
      · have hu : dpK 22 [(1, v)] (nB (qo q)) (nB (qo q) + 1) := Or.inl ⟨by show 1 < 2; decide, by omega, rfl⟩
        exact dpK_app hu _ _ o4
    · subst hs
      have hd := h8 rfl
      show V_ps ((1, qs q, qd q + 1), (8 :: qo q, qx q), q.2.2) (k + 1)
      refine h.ex (by omega) rfl rfl ⟨Nat.le_refl _, by show 1 ≤ 2; decide⟩ (Or.inl ⟨rfl, by show 1 ≤ qd q + 1; omega, o1⟩) (by show qd q + 1 ≤ 6; omega) o3 ?_ (by show (8 :: qo q).length + (qx q).length ≤ _; simp only [List.length_cons]; omega)
      have e : nB (8 :: qo q) = nB (qo q) := rfl
      show dpK 22 (qx q) 0 (nB (8 :: qo q) + 0)
      rw [e]
      exact o4
  · rw [w2] at o4
    simp only [if_true] at o4
    have lB := tw_len isB (qo q)
    have lT := tw_len isT (qo q)
    rcases hs with hs | ⟨hd, hs⟩ | ⟨hd, hs⟩
    · have hs17 := ht.1
      by_cases h17 : s = 17
      · subst h17
        show V_ps ((1, qs q, qd q), (17 :: (qo q).dropWhile isT, qx q ++ ((qo q).takeWhile isT).map itm), q.2.2) (k + 1)
        obtain ⟨t1, t2⟩ := okO_dropT o1
        refine h.ex (by omega) rfl rfl ⟨Nat.le_refl _, by show 1 ≤ 2; decide⟩ (Or.inr (Or.inr ⟨rfl, t2, t1⟩)) o2 (bins_ok isT (fun x => isT_B) o1 o3) ?_ (by show (17 :: (qo q).dropWhile isT).length + (qx q ++ ((qo q).takeWhile isT).map itm).length ≤ _; simp only [List.length_append, List.length_map, List.length_cons]; omega)
        have e : nB (17 :: (qo q).dropWhile isT) = nB ((qo q).dropWhile isT) + 1 := rfl
        show dpK 22 _ 0 (nB (17 :: (qo q).dropWhile isT) + 0)
        rw [e]
        exact dp_bins (d := 0) isT (fun x => isT_B) o4
      · have h15 : s = 15 ∨ s = 16 := by omega
        rw [stp15 h15]
        obtain ⟨t1, t2⟩ := okO_drop o1
        refine h.ex (by omega) rfl rfl ⟨Nat.le_refl _, by show 1 ≤ 2; decide⟩ (Or.inr (Or.inl ⟨h15, t2, t1⟩)) o2 (bins_ok isB (fun x z => z) o1 o3) ?_ (by show (s :: (qo q).dropWhile isB).length + (qx q ++ ((qo q).takeWhile isB).map itm).length ≤ _; simp only [List.length_append, List.length_map, List.length_cons]; omega)
        have e : nB (s :: (qo q).dropWhile isB) = nB ((qo q).dropWhile isB) + 1 := by rcases h15 with z | z <;> subst z <;> rfl
        show dpK 22 _ 0 (nB (s :: (qo q).dropWhile isB) + 0)
        rw [e]
        exact dp_bins (d := 0) isB (fun x z => z) o4
    · subst hs
      show V_ps ((2, qs q, qd q - 1), (((qo q).dropWhile isB).tail, qx q ++ ((qo q).takeWhile isB).map itm), q.2.2) (k + 1)
      obtain ⟨t1, t2⟩ := okO_drop o1
      have dp := dp_bins (d := 0) isB (fun x z => z) o4
      have hx := bins_ok (X := qx q) isB (fun x z => z) o1 o3
      generalize hD : (qo q).dropWhile isB = D at t1 t2 lB dp ⊢
      cases D with
      | nil => have t1 : qd q = 0 := t1; omega
      | cons y r =>
        have e8 := t2 y rfl
        subst e8
        have t3 : okO r (qd q - 1) := by
          rcases t1 with ⟨_, _, z⟩ | ⟨z, _, _⟩ | ⟨z, _, _⟩
          · exact z
          · omega
          · omega
        refine h.ex (by omega) rfl rfl ⟨by show 1 ≤ 2; decide, Nat.le_refl _⟩ t3 (by show qd q - 1 ≤ 6; omega) hx ?_ (by show r.length + (qx q ++ ((qo q).takeWhile isB).map itm).length ≤ _; simp only [List.length_append, List.length_map, List.length_cons] at lB ⊢; omega)
        exact dp
    · have hfl := h.fl w2 hd
      have efl : (fl q).length = (qx q).length + (qo q).length := by unfold fl; simp
      rcases hs with ⟨s1, hs⟩ | ⟨s2, hs⟩ | ⟨n1, n2, hs⟩
      · rw [stp11 hs]
        have he := c2 (by omega)
        refine V_fresh (by decide) (by decide) (fun z => absurd z (by decide)) (fun _ => a4 (by omega)) c1 (fun _ => he) c3 (fun _ => ⟨hfl, by omega⟩) c5 c6 hP ?_
        simp [Wq, clsC, curC, s1] at hC
        simp [efl]
        omega
      · have e2 := c2 (by omega)
        obtain ⟨l1, l2⟩ := c4 s2
        have hr : ∀ r ∈ rlA q, V_relK r := by
          intro r hr
          rcases List.mem_append.mp hr with z | z
          · exact c3 r z
          · have z : r = (qf q, qk q, ql q, fl q) := by simpa using z
            subst z
            exact ⟨l2, l1, hfl⟩
        have hh : ∀ r t, rlA q = r :: t → r.1 = true := by
          intro r t z
          unfold rlA at z
          cases hq : qr q with
          | nil =>
            rw [hq] at z
            simp at z
            rw [← z.1]
            exact c6 hq
          | cons u w =>
            rw [hq] at z
            simp at z
            rw [← z.1]
            exact c5 u w hq
        have hcnt : (qo q).length + (1 + (pwA (qr q) (qf q)).length) + ((codes (qn q)).length + ((qe q).length + ((emA (qr q) (qf q)).length + ((ql q).length + (qx q).length)))) ≤ k := by
          simp [Wq, clsC, curC, s2] at hC
          omega
        have erel : (relJ (qf q, qk q, ql q, fl q)).length = (ql q).length + (qx q).length + (qo q).length + 1 := by
          unfold relJ
          simp [efl]
          omega
        rcases hs with hs | hs | hs
        · rw [stp9 (Or.inl hs)]
          obtain ⟨A, B, g1, g2, g3, g4, g5⟩ := emA_and (qf q, qk q, ql q, fl q) (qr q)
          refine V_fresh (by decide) (by decide) (fun z => absurd z (by decide)) (fun _ => a4 (by omega)) c1 (fun _ => e2) hr (fun z => absurd z (by decide)) hh (fun z => absurd z (rlA_ne q)) hP ?_
          have ed : decide (s = 9) = false := decide_eq_false (by omega)
          rw [ed]
          have k1 : emA (rlA q) false = emA (qr q) (qf q) ++ (relJ (qf q, qk q, ql q, fl q) ++ A.map itm) := g4
          have k2 : pwA (rlA q) false = 10 :: B := g5 c6
          have k3 : (pwA (qr q) (qf q)).length = A.length + B.length := by
            have := congrArg List.length g1
            simpa using this
          simp [k1, k2, erel]
          omega
        · rw [stp9 (Or.inr hs)]
          obtain ⟨g1, g2⟩ := emA_or (qf q, qk q, ql q, fl q) (qr q)
          refine V_fresh (by decide) (by decide) (fun z => absurd z (by decide)) (fun _ => a4 (by omega)) c1 (fun _ => e2) hr (fun z => absurd z (by decide)) hh (fun z => absurd z (rlA_ne q)) hP ?_
          have ed : decide (s = 9) = true := decide_eq_true hs
          rw [ed]
          have k1 : emA (rlA q) true = emA (qr q) (qf q) ++ (relJ (qf q, qk q, ql q, fl q) ++ (pwA (qr q) (qf q)).map itm) := g1
          have k2 : pwA (rlA q) true = [9] := g2
          simp [k1, k2, erel]
          omega
        · subst hs
          have er : ruA q = (qc q, qe q, rlA q) := by unfold ruA; rw [if_neg (by omega)]
          show V_ps ((0, 0, 0), ([], []), qn q ++ [ruA q], (0, [], []), (true, 0, [])) (k + 1)
          rw [er]
          have k1 : cndT (rlA q) = emA (qr q) (qf q) ++ (relJ (qf q, qk q, ql q, fl q) ++ (pwA (qr q) (qf q)).map itm) := cndT_snoc _ _
          refine V_fresh (by decide) (by decide) (fun _ => ⟨rfl, rfl, rfl, rfl, rfl, rfl, rfl⟩) (fun z => absurd rfl z) (by decide) (fun z => absurd rfl z) (fun r z => absurd z (by simp)) (fun z => absurd z (by decide)) (fun r t z => absurd z (by simp)) (fun _ => rfl) (V_snoc hP (a4 (by omega)) (V_rul_mk c1 e2 hr hh)) ?_
          simp [codes_snoc, k1, erel]
          omega
      · have s0 : qs q = 0 := by omega
        have hcnt : (qo q).length + ((codes (qn q)).length + (qx q).length) ≤ k := by
          simp [Wq, clsC, curC, s0] at hC
          omega
        rcases hs with hs | hs
        · subst hs
          show V_ps ((1, 1, 0), ([], []), qn q, (qc q, fl q, []), (true, 0, [])) (k + 1)
          refine V_fresh (by decide) (by decide) (fun z => absurd z (by decide)) (fun _ => a4 (by omega)) c1 (fun _ => hfl) (fun r z => absurd z (by simp)) (fun z => absurd z (by decide)) (fun r t z => absurd z (by simp)) (fun _ => rfl) hP ?_
          simp [emA, pwA, efl]
          omega
        · subst hs
          have er : ruA q = (qc q, fl q, []) := by unfold ruA; rw [if_pos s0]
          show V_ps ((0, 0, 0), ([], []), qn q ++ [ruA q], (0, [], []), (true, 0, [])) (k + 1)
          rw [er]
          refine V_fresh (by decide) (by decide) (fun _ => ⟨rfl, rfl, rfl, rfl, rfl, rfl, rfl⟩) (fun z => absurd rfl z) (by decide) (fun z => absurd rfl z) (fun r z => absurd z (by simp)) (fun z => absurd z (by decide)) (fun r t z => absurd z (by simp)) (fun _ => rfl) (V_snoc hP (a4 (by omega)) (V_rul_mk c1 hfl (fun r z => absurd z (by simp)) (fun r t z => absurd z (by simp)))) ?_
          simp [codes_snoc, cndT, efl]
          omega
