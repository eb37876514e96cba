/-! ===== the first row that fits, act by act: the class ===== -/
theorem cdA_app (X : List Nat) : ∀ (C : List Nat) (c : Nat), C.foldl (fun c a => c * 1024 + a) c = c * 1024 ^ C.length + cdA C := by
  intro C
  induction C with
  | nil => intro c; simp [cdA]
  | cons a C ih =>
    intro c
    have e : cdA (a :: C) = a * 1024 ^ C.length + cdA C := by
      unfold cdA
      rw [List.foldl_cons, Nat.zero_mul, Nat.zero_add]
      exact ih a
    rw [List.foldl_cons, ih, e, List.length_cons, Nat.pow_succ, Nat.add_mul, Nat.mul_comm (1024 ^ C.length) 1024, ← Nat.mul_assoc]
    omega
theorem cdA_dig {L : List Nat} (h : ∀ a, a ∈ L → a < 1024) {i : Nat} (hi : i < L.length) : cdA L / 1024 ^ (L.length - 1 - i) % 1024 = L.getD i 0 := by
  have e1 : L = L.take (i + 1) ++ L.drop (i + 1) := (List.take_append_drop _ _).symm
  have e2 : L.take (i + 1) = L.take i ++ [L[i]] := List.take_succ_eq_append_getElem hi
  have e3 : cdA L = (cdA (L.take i) * 1024 + L[i]) * 1024 ^ (L.drop (i + 1)).length + cdA (L.drop (i + 1)) := by
    have : cdA L = cdA (L.take (i + 1) ++ L.drop (i + 1)) := by rw [← e1]
    rw [this]
    show (L.take (i + 1) ++ L.drop (i + 1)).foldl (fun c a => c * 1024 + a) 0 = _
    rw [List.foldl_append, cdA_app []]
    show cdA (L.take (i + 1)) * _ + _ = _
    rw [e2, cdA_snoc]
  have hl : (L.drop (i + 1)).length = L.length - 1 - i := by rw [List.length_drop]; omega
  have hlt := cdA_lt (L := L.drop (i + 1)) (fun a ha => h a (List.mem_of_mem_drop ha))
  have hb := h L[i] (List.getElem_mem hi)
  have hpos : 0 < 1024 ^ (L.drop (i + 1)).length := Nat.pow_pos (by decide)
  rw [e3, ← hl, Nat.mul_comm, Nat.mul_add_div hpos, Nat.div_eq_of_lt hlt, Nat.add_zero, gD_el hi]
  omega
def rowL (N : Nat) (F : Fnd) (r : (Nat × Nat) × List Nat) : List Nat := r.2 ++ ((if lsl (slF N F (unP N r.1.2)) = 0 then [] else [lsl (slF N F (unP N r.1.2))]) ++ (if diN N F = 0 then [] else [2000]))
def rowA (N : Nat) (F : Fnd) (o : Option ((Nat × Nat) × List Nat)) (x : Int32) : Int32 := match o with
  | none => -1
  | some r => if ¬ x < 0 ∧ x < nI (rowL N F r).length then nI ((rowL N F r).getD x.toNatClampNeg 0) else -1
section FST
variable {γ : rG} {l : Launch} {sh : Nat × (Nat → Nat) × (Nat → Nat)} {I : Nat → Nat → Int32} {J : Nat → Nat → Int64} {R : Nat → Nat → Option Nat} {a N i j d : Nat} {F : Fnd}
theorem PLb_lev {N : Nat} (h : 2 ≤ N ∧ N ≤ 8) : ∀ n, n ≤ 4 → ∀ j, j < (PLb N n).length → ∃ d, d < n ∧ (PLb N d).length ≤ j ∧ j < (PLb N (d + 1)).length ∧ (gE (PLb N n) j).2.2.length = d ∧ ∀ y, y ∈ (gE (PLb N n) j).2.2 → y < 1024 := by
  obtain ⟨B, hT⟩ := told_all h.1 h.2
  intro n
  induction n with
  | zero => intro _ j hj; exact absurd hj (by simp [PLb])
  | succ n ih =>
    intro hn j hj
    simp only [PLb, List.length_append] at hj
    rcases Nat.lt_or_ge j (PLb N n).length with z | z
    · obtain ⟨d, h1, h2, h3, h4⟩ := ih (by omega) j z
      refine ⟨d, by omega, h2, h3, ?_⟩
      simp only [PLb]
      rw [gE_al z]
      exact h4
    · obtain ⟨k, rfl⟩ : ∃ k, j = (PLb N n).length + k := ⟨j - (PLb N n).length, by omega⟩
      have hk : k < (Lv N n).length := by omega
      have hEV := (Lv_KB h hT n (by omega)).2 _ (gE_mem hk)
      refine ⟨n, by omega, by omega, by simp only [PLb, List.length_append]; omega, ?_⟩
      simp only [PLb]
      rw [gE_ar hk]
      exact ⟨hEV.2.2.1, hEV.2.2.2⟩
theorem PLb_mono (N : Nat) : ∀ k d, (PLb N d).length ≤ (PLb N (d + k)).length := by
  intro k
  induction k with
  | zero => intro d; exact Nat.le_refl _
  | succ k ih =>
    intro d
    have := ih d
    rw [show d + (k + 1) = d + k + 1 by omega]
    simp only [PLb, List.length_append]
    omega
theorem ct_turnsOf (hA : At1 sh R a) (h : 2 ≤ N ∧ N ≤ 8) (hL : ∀ d, d < 4 → I (a + 4) d = nI (PLb N (d + 1)).length) (hd : d < 4) (h1 : (PLb N d).length ≤ j) (h2 : j < (PLb N (d + 1)).length) : rMet γ l m_X1_turnsOf [.ref a, .int (nI j)] (sh, I, J, R) (sh, I, J, R) (some (.int (nI d))) := by
  have hl := PLb_1300 h
  have hm : ∀ t, t ≤ 4 → (PLb N t).length ≤ 1300 := fun t ht => by
    have := PLb_mono N (4 - t) t
    rw [show t + (4 - t) = 4 by omega] at this
    omega
  have hd1 := hm (d + 1) (by omega)
  have loop : ∀ k t, t + k = d → s_X1_turnsOf_2 γ l a (nI j) (nI t) (sh, I, J, R) (fun hf r => hf = (sh, I, J, R) ∧ r = some (.int (nI d))) := by
    intro k
    induction k with
    | zero =>
      intro t ht
      have et : t = d := by omega
      subst et
      refine w_X1_turnsOf_2 hA ⟨fun _ => ⟨rfl, rfl⟩, fun z => ?_⟩
      rw [nI_clamp (by omega), hL t hd]
      exact ⟨vp_in_nI hd (by decide), fun _ => ⟨rfl, rfl⟩, fun y => absurd (nI_lt h2 (by omega)) y⟩
    | succ k ih =>
      intro t ht
      have := PLb_mono N k (t + 1)
      rw [show t + 1 + k = d by omega] at this
      refine w_X1_turnsOf_2 hA ⟨fun z => absurd z (nI_ge (b := 3) (by omega) (by decide)), fun z => ?_⟩
      rw [nI_clamp (by omega), hL t (by omega)]
      refine ⟨vp_in_nI (by omega) (by decide), fun y => absurd y (nI_nlt (by omega) (by omega)), fun y => ?_⟩
      rw [nI_1]
      exact ih (t + 1) (by omega)
  exact e_X1_turnsOf (rW_pure (w_X1_turnsOf_0 hA (loop d 0 (by omega))))
theorem ct_actOf (hA : At1 sh R a) (h : 2 ≤ N ∧ N ≤ 8) (hO : OuR I J a N) (hj : j < (PLb N 4).length) (hi : i < (gE (PLb N 4) j).2.2.length) : rMet γ l m_X1_actOf [.ref a, .int (nI j), .int (nI i)] (sh, I, J, R) (sh, I, J, R) (some (.int (nI ((gE (PLb N 4) j).2.2.getD i 0)))) := by
  have hl := PLb_1300 h
  obtain ⟨d, d1, d2, d3, d4, d5⟩ := PLb_lev h 4 (Nat.le_refl _) j hj
  have m := ct_turnsOf (γ := γ) (l := l) (J := J) (d := d) hA h hO.2.2.2 d1 d2 d3
  have e3 := (hO.2.1 j hj).2.2
  rw [Nat.zero_add] at e3
  have hlt := cdA_lt d5
  have hp : (1024 : Nat) ^ (gE (PLb N 4) j).2.2.length ≤ 1024 ^ 3 := Nat.pow_le_pow_right (by decide) (by omega)
  refine e_X1_actOf (rW_pure (w_X1_actOf_0 hA ⟨_, m, vp_in_nI (by omega) (by decide), rfl, ?_⟩))
  rw [nI_clamp (by omega), e3, show (1 : Int32) = nI 1 from rfl, pk_sub (by omega), pk_sub (by omega), show (10 : Int32) = nI 10 from rfl, pk_mul, bt_shr (by omega) (by omega), pk_andN (m := 1023) (by have := Nat.div_le_self (cdA (gE (PLb N 4) j).2.2) (2 ^ (10 * (d - 1 - i))); omega) 10 (by decide)]
  rw [show (2 : Nat) ^ (10 * (d - 1 - i)) = 1024 ^ (d - 1 - i) from Nat.pow_mul 2 10 (d - 1 - i), ← d4]
  rw [show (2 : Nat) ^ 10 = 1024 from rfl, cdA_dig d5 hi]
theorem ct_firstAct (hA : At0 sh R a) (h : 2 ≤ N ∧ N ≤ 8) (hO : OuR I J (a + 1) N) (hS : SrS I a N F (PLb N 4) (PLb N 4).length) (x : Int32) : rMet γ l m_X0_firstAct [.ref a, .int x] (sh, I, J, R) (sh, I, J, R) (some (.int (rowA N F (fst1 (pE N F) (PLb N 4)) x))) := by
  have hl := PLb_1300 h
  have hfr := hS.2
  unfold FrC at hfr
  rw [List.take_length] at hfr
  rcases hfr with ⟨h1, h2⟩ | ⟨j, h1, h2, h3, h4, h5⟩
  · rw [h1]
    exact e_X0_firstAct (rW_pure (w_X0_firstAct_0 hA ⟨fun _ => ⟨rfl, rfl⟩, fun z => absurd h2 z⟩))
  · rw [h3]
    obtain ⟨d, d1, d2, d3, d4, d5⟩ := PLb_lev h 4 (Nat.le_refl _) j h1
    obtain ⟨B, d', _, hEV⟩ := PLb_V h 4 (Nat.le_refl _) _ (gE_mem h1)
    have m := ct_turnsOf (γ := γ) (l := l) (J := J) (d := d) (At0_13 hA).2 h hO.2.2.2 d1 d2 d3
    generalize hsl : lsl (slF N F (unP N (gE (PLb N 4) j).1.2)) = sl at h4
    have hsl31 : sl < 2 ^ 31 := by
      have hP := hEV.1.2.2
      have key : ∀ w, w ≤ 8 → ∀ s, s ∈ slC (unP N (gE (PLb N 4) j).1.2) w → s.1 < 2000 := by
        intro w
        induction w with
        | zero => intro _ s hs; exact absurd hs (by simp [slC])
        | succ w ih =>
          intro hw s hs
          simp only [slC] at hs
          rcases List.mem_append.mp hs with z | z
          · exact ih (by omega) s z
          · have hk : ∀ k, k ≤ 8 → ∀ s, s ∈ slK (unP N (gE (PLb N 4) j).1.2) w k → s.1 < 2000 := by
              intro k
              induction k with
              | zero => intro _ s hs; exact absurd hs (by simp [slK])
              | succ k ihk =>
                intro hk s hs
                simp only [slK] at hs
                rcases List.mem_append.mp hs with z | z
                · exact ihk (by omega) s z
                · rw [List.mem_singleton.mp z]
                  show 1000 + 10 * w + (k + 1) < 2000
                  omega
            have := cnt_le (pC (unP N (gE (PLb N 4) j).1.2)) w (pN (unP N (gE (PLb N 4) j).1.2))
            have := hP.2.1
            exact hk _ (by omega) s z
      have hall : ∀ s, s ∈ slF N F (unP N (gE (PLb N 4) j).1.2) → s.1 < 2000 := by
        intro s hs
        have := (List.mem_filter.mp hs).1
        rcases List.mem_cons.mp this with z | z
        · rw [z]; decide
        · exact key _ hP.2.2.2.1 s z
      rw [← hsl]
      cases hq : slF N F (unP N (gE (PLb N 4) j).1.2) with
      | nil => decide
      | cons s t =>
        have := hall s (by rw [hq]; simp)
        show s.1 < _
        omega
    have hdi : I a 11 = 0 ↔ diN N F = 0 := by
      rw [h5, nz_0]
      simp
    have hrl : rowL N F ((gE (PLb N 4) j).1, (gE (PLb N 4) j).2.2) = (gE (PLb N 4) j).2.2 ++ ((if sl = 0 then [] else [sl]) ++ (if diN N F = 0 then [] else [2000])) := by
      unfold rowL
      simp only
      rw [hsl]
    have n1 : (0 : Int32) ≤ x ↔ ¬ x < 0 := Int32.not_lt.symm
    refine e_X0_firstAct (rW_pure (w_X0_firstAct_0 hA ⟨fun z => absurd z (by rw [h2]; exact nI_ne1 (by omega)), fun _ => ⟨fun z => ?_, fun z => ⟨rfl, ?_⟩⟩⟩))
    · rw [n1] at z
      obtain ⟨i, hi, rfl⟩ := nI_of z
      have val : rowA N F (some ((gE (PLb N 4) j).1, (gE (PLb N 4) j).2.2)) (nI i) = if i < (rowL N F ((gE (PLb N 4) j).1, (gE (PLb N 4) j).2.2)).length then nI ((rowL N F ((gE (PLb N 4) j).1, (gE (PLb N 4) j).2.2)).getD i 0) else -1 := by
        show (if ¬ nI i < 0 ∧ nI i < nI (rowL N F _).length then nI ((rowL N F _).getD (nI i).toNatClampNeg 0) else -1) = _
        have hlen : (rowL N F ((gE (PLb N 4) j).1, (gE (PLb N 4) j).2.2)).length < 2 ^ 31 := by
          rw [hrl]
          simp only [List.length_append, d4]
          have : (if sl = 0 then ([] : List Nat) else [sl]).length ≤ 1 := by split <;> simp
          have : (if diN N F = 0 then ([] : List Nat) else [2000]).length ≤ 1 := by split <;> simp
          omega
        rw [nI_clamp hi]
        by_cases hz : i < (rowL N F ((gE (PLb N 4) j).1, (gE (PLb N 4) j).2.2)).length
        · rw [if_pos hz, if_pos ⟨z, nI_lt hz hlen⟩]
        · rw [if_neg hz, if_neg (fun y => hz ((nI_ltI hi hlen).mp y.2))]
      rw [val, hrl, h2]
      refine ⟨_, m, ?_⟩
      rw [nI_leI (by omega) hi, h4]
      refine ⟨fun w => ?_, fun w => ?_⟩
      · obtain ⟨k, rfl⟩ : ∃ k, i = d + k := ⟨i - d, by omega⟩
        have es : nI (d + k) - nI d = nI k := nI_sub' d k
        have e0 : ∀ c : Nat, c < 2 ^ 31 → (nI c = 0 ↔ c = 0) := fun c hc => nI_eq (b := 0) hc (by decide)
        have eg : ∀ (T : List Nat), ((gE (PLb N 4) j).2.2 ++ T).getD (d + k) 0 = T.getD k 0 := by
          intro T
          unfold List.getD
          rw [List.getElem?_append_right (by omega), d4, show d + k - d = k by omega]
        rw [es, e0 sl hsl31, e0 k (by omega), hdi, eg]
        simp only [List.length_append, d4]
        refine ⟨fun w1 => ⟨fun w2 => ⟨fun w3 => ⟨trivial, ?_⟩, fun w3 => ⟨trivial, ?_⟩⟩, fun w2 => ⟨trivial, ?_⟩⟩, fun w1 => ⟨fun w2 => ⟨trivial, ?_⟩, fun w2 => ?_⟩⟩
        · simp [w1, w2, w3]
        · simp [w1, w2, w3]; rfl
        · by_cases w3 : diN N F = 0
          · simp [w1, w3]; intro q; omega
          · simp [w1, w3]; omega
        · simp [w1, w2]
        · obtain ⟨k', rfl⟩ : ∃ k', k = k' + 1 := ⟨k - 1, by omega⟩
          rw [show nI (k' + 1) + -1 = nI k' from pk_m1 k', e0 k' (by omega)]
          refine ⟨fun w3 => ⟨fun w4 => ⟨trivial, ?_⟩, fun w4 => ⟨trivial, ?_⟩⟩, fun w3 => ⟨trivial, ?_⟩⟩
          · simp [w1, w3, w4]
          · simp [w1, w3, w4]; rfl
          · by_cases w4 : diN N F = 0
            · simp [w1, w4]
            · simp [w1, w4]; omega
      · have m2 := ct_actOf (γ := γ) (l := l) (At0_13 hA).2 h hO h1 (i := i) (by omega)
        refine ⟨_, m2, rfl, ?_⟩
        rw [if_pos (by simp only [List.length_append]; omega)]
        congr 2
        unfold List.getD
        rw [List.getElem?_append_left (by omega)]
    · show some (Value.int (-1)) = some (Value.int (if ¬ x < 0 ∧ _ then _ else -1))
      rw [if_neg (fun y => z (n1.mpr y.1))]
end FST
