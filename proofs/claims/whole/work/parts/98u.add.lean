/-! ===== the class's table of outcomes: add ===== -/
def enc (I : Nat → Nat → Int32) (J : Nat → Nat → Int64) (a k : Nat) (x : En) : Prop := J (a + 1) k = lN (kyN x.1.1 x.1.2) ∧ I (a + 2) k = nI x.2.1 ∧ I (a + 3) k = nI (cdA x.2.2)
def EnA (I : Nat → Nat → Int32) (J : Nat → Nat → Int64) (a off : Nat) (L : List En) : Prop := ∀ i, i < L.length → enc I J a (off + i) (gE L i)
def slt (I : Nat → Nat → Int32) (a : Nat) (y t : Nat) : Int32 := I (a + 5) ((hsN (lN y) + t) % 2048)
def SlA (I : Nat → Nat → Int32) (a off : Nat) (L : List En) : Prop := (∀ q, q < 2048 → I (a + 5) q = -1 ∨ ∃ i, i < L.length ∧ I (a + 5) q = nI (off + i)) ∧ (∀ i, i < L.length → ∃ t, t < 2048 ∧ slt I a (kyN (gE L i).1.1 (gE L i).1.2) t = nI (off + i) ∧ ∀ t', t' < t → slt I a (kyN (gE L i).1.1 (gE L i).1.2) t' ≠ -1) ∧ emp (I (a + 5)) 2048 + L.length = 2048
def Fad (a off : Nat) : Nat → Nat → Prop := fun b j => (b = a ∧ j = 1) ∨ ((b = a + 2 ∨ b = a + 3) ∧ off ≤ j) ∨ b = a + 5
def SmO (a off : Nat) (J J' : Nat → Nat → Int64) : Prop := ∀ b j, ¬ (b = a + 1 ∧ off ≤ j) → J' b j = J b j
theorem SmO.rf {a off : Nat} {J : Nat → Nat → Int64} : SmO a off J J := fun _ _ _ => rfl
theorem SmO.tr {a off : Nat} {J J' J'' : Nat → Nat → Int64} (h : SmO a off J J') (h' : SmO a off J' J'') : SmO a off J J'' := fun b j q => (h' b j q).trans (h b j q)
section ADD
variable {γ : rG} {l : Launch} {sh : Nat × (Nat → Nat) × (Nat → Nat)} {I : Nat → Nat → Int32} {J : Nat → Nat → Int64} {R : Nat → Nat → Option Nat} {a off : Nat} {L : List En} {e : En}
theorem up_atJ {f : Nat → Nat → Int64} {b k x y : Nat} {v : Int64} : up f b k v x y = if x = b ∧ y = k then v else f x y := by
  unfold up va_up
  by_cases h1 : x = b
  · subst h1
    by_cases h2 : y = k
    · simp [h2]
    · simp [h2]
  · simp [h1]
/-- a new entry -/
theorem add_new {q t : Nat} (hA : At1 sh R a) (hE : EnA I J a off L) (hS : SlA I a off L) (h1 : I a 1 = nI (off + L.length)) (hc : off + L.length < 1300) (hn : hasK L e.1 = false) (hq : q = (hsN (lN (kyN e.1.1 e.1.2)) + t) % 2048) (ht : t < 2048) (hq0 : I (a + 5) q = -1) (hp : ∀ t', t' < t → slt I a (kyN e.1.1 e.1.2) t' ≠ -1) :
    ∃ I' J', rMet γ l m_X1_append [.ref a, .int (nI q), .long (lN (kyN e.1.1 e.1.2)), .int (nI e.2.1), .int (nI (cdA e.2.2))] (sh, I, J, R) (sh, I', J', R) none ∧ (EnA I' J' a off (ins L e) ∧ SlA I' a off (ins L e) ∧ I' a 1 = nI (off + (ins L e).length) ∧ Sm (Fad a off) I I' ∧ SmO a off J J') := by
  have eI : ins L e = L ++ [e] := by unfold ins; rw [hn]; rfl
  have hq2 : q < 2048 := by rw [hq]; exact Nat.mod_lt _ (by decide)
  have hin : vp_in (nI (off + L.length)) 1300 := vp_in_nI hc (by decide)
  have hcl : (nI (off + L.length)).toNatClampNeg = off + L.length := nI_clamp (by omega)
  have d0 : ∀ d, 1 ≤ d → ¬ (a = a + d) := fun d hd => by omega
  have hne : nI (off + L.length) ≠ -1 := nI_ne1 (by omega)
  have m : rMet γ l m_X1_append [.ref a, .int (nI q), .long (lN (kyN e.1.1 e.1.2)), .int (nI e.2.1), .int (nI (cdA e.2.2))] (sh, I, J, R) (sh, up (up (up (up I (a + 5) q (nI (off + L.length))) (a + 2) (off + L.length) (nI e.2.1)) (a + 3) (off + L.length) (nI (cdA e.2.2))) a 1 (nI (off + L.length + 1)), up J (a + 1) (off + L.length) (lN (kyN e.1.1 e.1.2)), R) none := by
    refine e_X1_append (rW_pure (w_X1_append_0 hA ⟨fun z => absurd z ?_, fun _ => ?_⟩))
    · rw [h1]; exact nI_ge (b := 1300) hc (by decide)
    · simp only [up_at, d0 5 (by omega), d0 2 (by omega), d0 3 (by omega), false_and, if_false, h1, hcl, nI_1, nI_clamp (show q < 2 ^ 31 by omega)]
      exact ⟨vp_in_nI hq2 (by decide), hin, hin, hin, trivial, trivial⟩
  generalize hI' : up (up (up (up I (a + 5) q (nI (off + L.length))) (a + 2) (off + L.length) (nI e.2.1)) (a + 3) (off + L.length) (nI (cdA e.2.2))) a 1 (nI (off + L.length + 1)) = I' at m
  have x5 : ∀ j, I' (a + 5) j = if j = q then nI (off + L.length) else I (a + 5) j := by
    intro j
    rw [← hI', up_at, if_neg (by omega), up_at, if_neg (by omega), up_at, if_neg (by omega), up_at]
    simp
  have x2 : ∀ j, I' (a + 2) j = if j = off + L.length then nI e.2.1 else I (a + 2) j := by
    intro j
    rw [← hI', up_at, if_neg (by omega), up_at, if_neg (by omega), up_at]
    by_cases z : j = off + L.length
    · rw [if_pos ⟨rfl, z⟩, if_pos z]
    · rw [if_neg (fun y => z y.2), if_neg z, up_at, if_neg (by omega)]
  have x3 : ∀ j, I' (a + 3) j = if j = off + L.length then nI (cdA e.2.2) else I (a + 3) j := by
    intro j
    rw [← hI', up_at, if_neg (by omega), up_at]
    by_cases z : j = off + L.length
    · rw [if_pos ⟨rfl, z⟩, if_pos z]
    · rw [if_neg (fun y => z y.2), if_neg z, up_at, if_neg (by omega), up_at, if_neg (by omega)]
  have xs : ∀ y t', slt I' a y t' = if (hsN (lN y) + t') % 2048 = q then nI (off + L.length) else slt I a y t' := fun y t' => x5 _
  refine ⟨I', _, m, ?_, ?_, ?_, ?_, ?_⟩
  · rw [eI]
    intro i hi
    rw [List.length_append, List.length_singleton] at hi
    by_cases z : i = L.length
    · subst z
      rw [gE_r]
      exact ⟨by rw [up_atJ, if_pos ⟨rfl, rfl⟩], by rw [x2, if_pos rfl], by rw [x3, if_pos rfl]⟩
    · have hi' : i < L.length := by omega
      rw [gE_l hi']
      obtain ⟨q1, q2, q3⟩ := hE i hi'
      exact ⟨by rw [up_atJ, if_neg (by omega)]; exact q1, by rw [x2, if_neg (by omega)]; exact q2, by rw [x3, if_neg (by omega)]; exact q3⟩
  · rw [eI]
    obtain ⟨s1, s2, s3⟩ := hS
    refine ⟨fun j hj => ?_, fun i hi => ?_, ?_⟩
    · rw [x5]
      by_cases z : j = q
      · rw [if_pos z]; exact Or.inr ⟨L.length, by simp, rfl⟩
      · rw [if_neg z]
        rcases s1 j hj with y | ⟨i, y1, y2⟩
        · exact Or.inl y
        · exact Or.inr ⟨i, by simp; omega, y2⟩
    · rw [List.length_append, List.length_singleton] at hi
      by_cases z : i = L.length
      · subst z
        rw [gE_r]
        refine ⟨t, ht, by rw [xs, if_pos hq.symm], fun t' ht' => ?_⟩
        rw [xs]
        split
        · exact hne
        · exact hp t' ht'
      · have hi' : i < L.length := by omega
        rw [gE_l hi']
        obtain ⟨u, u1, u2, u3⟩ := s2 i hi'
        refine ⟨u, u1, ?_, fun t' ht' => ?_⟩
        · rw [xs, if_neg (fun y => ?_)]
          · exact u2
          · unfold slt at u2
            rw [y, hq0] at u2
            exact nI_ne1 (show off + i < 2 ^ 31 by omega) u2.symm
        · rw [xs]
          split
          · exact hne
          · exact u3 t' ht'
    · have := emp_up (g := I (a + 5)) (g' := I' (a + 5)) (q0 := q) hq0 (by rw [x5, if_pos rfl]; exact hne) 2048 hq2 (fun j _ hj => by rw [x5, if_neg hj])
      rw [List.length_append, List.length_singleton]
      omega
  · rw [eI, ← hI', up_at, if_pos ⟨rfl, rfl⟩, List.length_append]
    rfl
  · rw [← hI']
    exact (((Sm.rf.up (Or.inr (Or.inr rfl))).up (Or.inr (Or.inl ⟨Or.inl rfl, by omega⟩))).up (Or.inr (Or.inl ⟨Or.inr rfl, by omega⟩))).up (Or.inl ⟨rfl, rfl⟩)
  · intro b j z
    rw [up_atJ, if_neg (fun y => z ⟨y.1, by omega⟩)]
/-- an entry is merged, or comes new -/
theorem ct_add (hA : At1 sh R a) (hn : ndK L) (hb : ∀ x, x ∈ L → x.1.2 < 2 ^ 49 ∧ kyN x.1.1 x.1.2 < 2 ^ 63) (he : e.1.2 < 2 ^ 49 ∧ kyN e.1.1 e.1.2 < 2 ^ 63) (hE : EnA I J a off L) (hS : SlA I a off L) (h1 : I a 1 = nI (off + L.length)) (hc : hasK L e.1 = false → off + L.length < 1300) (hl : off + L.length ≤ 1300) :
    ∃ I' J', rMet γ l m_X1_add [.ref a, .long (lN (kyN e.1.1 e.1.2)), .int (nI e.2.1), .int (nI (cdA e.2.2))] (sh, I, J, R) (sh, I', J', R) none ∧ (EnA I' J' a off (ins L e) ∧ SlA I' a off (ins L e) ∧ I' a 1 = nI (off + (ins L e).length) ∧ Sm (Fad a off) I I' ∧ SmO a off J J') := by
  obtain ⟨g1, g2⟩ := hs_sp (lN (kyN e.1.1 e.1.2))
  have loop : ∀ d t, t + d = 2048 → (∀ t', t' < t → slt I a (kyN e.1.1 e.1.2) t' ≠ -1 ∧ ∀ i, i < L.length → slt I a (kyN e.1.1 e.1.2) t' = nI (off + i) → (gE L i).1 ≠ e.1) → s_X1_add_14 γ l a (lN (kyN e.1.1 e.1.2)) (nI e.2.1) (nI (cdA e.2.2)) (nI ((hsN (lN (kyN e.1.1 e.1.2)) + t) % 2048)) (nI t) (sh, I, J, R) (fun hf v => ∃ I' J', hf = (sh, I', J', R) ∧ v = none ∧ (EnA I' J' a off (ins L e) ∧ SlA I' a off (ins L e) ∧ I' a 1 = nI (off + (ins L e).length) ∧ Sm (Fad a off) I I' ∧ SmO a off J J')) := by
    intro d
    induction d with
    | zero =>
      intro t ht hv
      exfalso
      obtain ⟨q, q1, q2⟩ := emp_ex (g := I (a + 5)) 2048 (by have := hS.2.2; omega)
      have hz := (hv ((q + 2048 - hsN (lN (kyN e.1.1 e.1.2))) % 2048) (by have := Nat.mod_lt (q + 2048 - hsN (lN (kyN e.1.1 e.1.2))) (show 2048 > 0 by decide); omega)).1
      unfold slt at hz
      rw [show (hsN (lN (kyN e.1.1 e.1.2)) + (q + 2048 - hsN (lN (kyN e.1.1 e.1.2))) % 2048) % 2048 = q by omega] at hz
      exact hz q2
    | succ d ih =>
      intro t ht hv
      have hqq : (hsN (lN (kyN e.1.1 e.1.2)) + t) % 2048 < 2048 := Nat.mod_lt _ (by decide)
      refine w_X1_add_14 hA ⟨fun z => absurd z (nI_ge (b := 2048) (by omega) (by decide)), fun _ => ⟨vp_in_nI hqq (by decide), ?_⟩⟩
      rw [nI_clamp (by omega)]
      have es : I (a + 5) ((hsN (lN (kyN e.1.1 e.1.2)) + t) % 2048) = slt I a (kyN e.1.1 e.1.2) t := rfl
      refine ⟨fun z => ?_, fun z => ?_⟩
      · have hk : hasK L e.1 = false := by
          cases hz : hasK L e.1 with
          | false => rfl
          | true =>
            exfalso
            obtain ⟨x, x1, x2⟩ := hasK_iff.mp hz
            obtain ⟨i, i1, i2⟩ := gE_of x1
            obtain ⟨u, u1, u2, u3⟩ := hS.2.1 i i1
            rw [i2, x2] at u2 u3
            rcases Nat.lt_trichotomy t u with y | y | y
            · exact u3 t y z
            · subst y
              rw [es] at z
              rw [z] at u2
              exact nI_ne1 (show off + i < 2 ^ 31 by omega) u2.symm
            · exact (hv u y).2 i i1 u2 (by rw [i2, x2])
        obtain ⟨I', J', m1, m2⟩ := add_new (γ := γ) (l := l) (e := e) (t := t) hA hE hS h1 (hc hk) hk rfl (by omega) z (fun t' ht' => (hv t' ht').1)
        exact ⟨I', J', m1, I', J', rfl, rfl, m2⟩
      · rcases hS.1 _ hqq with y | ⟨i, i1, i2⟩
        · exact absurd y z
        · have hin : vp_in (nI (off + i)) 1300 := vp_in_nI (by omega) (by decide)
          obtain ⟨e1, e2, e3⟩ := hE i i1
          rw [i2, nI_clamp (show off + i < 2 ^ 31 by omega), e1, e2]
          refine ⟨hin, fun y => ?_, fun y => ?_⟩
          · rw [lg_0] at y
            have hbi := hb _ (gE_mem i1)
            obtain ⟨k1, k2⟩ := kyN_inj hbi.1 he.1 (lN_inj hbi.2 he.2 y)
            have hk : (gE L i).1 = e.1 := Prod.ext k1 k2
            have eI : ins L e = L.map (bmp e) := by
              unfold ins
              rw [if_pos (hasK_iff.mpr ⟨_, gE_mem i1, hk⟩)]
            have x2 : ∀ j, up I (a + 2) (off + i) (nI (gE L i).2.1 + nI e.2.1) (a + 2) j = if j = off + i then nI ((gE L i).2.1 + e.2.1) else I (a + 2) j := by
              intro j
              rw [up_at, nI_add]
              simp
            refine ⟨hin, hin, up I (a + 2) (off + i) (nI (gE L i).2.1 + nI e.2.1), J, rfl, rfl, fun j hj => ?_, ?_, ?_, Sm.rf.up (Or.inr (Or.inl ⟨Or.inl rfl, by omega⟩)), SmO.rf⟩
            · rw [eI, List.length_map] at hj
              rw [eI, gE_bmp hj]
              obtain ⟨j1, j2, j3⟩ := hE j hj
              by_cases hz : j = i
              · subst hz
                unfold bmp
                rw [if_pos hk]
                exact ⟨j1, by rw [x2, if_pos rfl], by rw [up_at, if_neg (by omega)]; exact j3⟩
              · have hk' : ¬ (gE L j).1 = e.1 := fun w => hz (gE_inj hn hj i1 (by rw [w, hk]))
                unfold bmp
                rw [if_neg hk']
                exact ⟨j1, by rw [x2, if_neg (by omega)]; exact j2, by rw [up_at, if_neg (by omega)]; exact j3⟩
            · rw [eI]
              have x5 : ∀ j, up I (a + 2) (off + i) (nI (gE L i).2.1 + nI e.2.1) (a + 5) j = I (a + 5) j := fun j => by rw [up_at, if_neg (by omega)]
              refine ⟨fun j hj => ?_, fun j hj => ?_, ?_⟩
              · rw [x5, List.length_map]; exact hS.1 j hj
              · rw [List.length_map] at hj
                rw [gE_bmp hj, bmp_key]
                obtain ⟨u, u1, u2, u3⟩ := hS.2.1 j hj
                exact ⟨u, u1, (x5 _).trans u2, fun t' ht' => by unfold slt; rw [x5]; exact u3 t' ht'⟩
              · rw [emp_congr 2048 (fun j _ => x5 j), List.length_map]; exact hS.2.2
            · rw [up_at, if_neg (by omega), eI, List.length_map]; exact h1
          · rw [lg_0] at y
            rw [nI_1, nI_1, pk_andN (m := 2047) (by omega) 11 (by decide)]
            have hnx : ((hsN (lN (kyN e.1.1 e.1.2)) + t) % 2048 + 1) % 2 ^ 11 = (hsN (lN (kyN e.1.1 e.1.2)) + (t + 1)) % 2048 := by omega
            rw [hnx]
            refine ih (t + 1) (by omega) (fun t' ht' => ?_)
            by_cases w : t' = t
            · subst w
              refine ⟨z, fun j hj hw hk => y ?_⟩
              have ej : j = i := by
                have := (nI_eq (show off + j < 2 ^ 31 by omega) (show off + i < 2 ^ 31 by omega)).mp (hw.symm.trans i2)
                omega
              subst ej
              rw [hk]
            · exact hv t' (by omega)
  have t0 := loop 2048 0 (by omega) (fun t' ht' => absurd ht' (by omega))
  rw [Nat.add_zero, Nat.mod_eq_of_lt g1] at t0
  obtain ⟨I', J', q1, q2⟩ := rW_exJ (w_X1_add_0 (γ := γ) (l := l) hA (by
    rw [show ((((lN (kyN e.1.1 e.1.2) * -7046029254386353131).toUInt64 >>> ((53 : Int32).toInt64.toUInt64 &&& Int64.toUInt64 63)).toInt64).toInt32) = nI (hsN (lN (kyN e.1.1 e.1.2))) from g2]
    exact t0))
  exact ⟨I', J', e_X1_add q1, q2⟩
end ADD
