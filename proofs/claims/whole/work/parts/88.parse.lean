/-! ===== how a text is read, token by token: the machine that both keep to ===== -/
/-- an operator that waits (the class's sorts), as a step -/
def itm (s : Nat) : Itm := if s = 15 then (2, 0) else if s = 16 then (3, 0) else if s = 17 then (4, 0) else if s = 10 then (9, 0) else if s = 9 then (10, 0) else (s - 6, 0)
def isB (s : Nat) : Bool := decide (15 ≤ s)
def isT (s : Nat) : Bool := decide (s = 17)
/-- wants, side, depth, operators that wait, steps of this expression, rules done, this rule's sort, value, relations, whether 'or' stands ahead, the relation's sort, its left side -/
abbrev Ps : Type := (Nat × Nat × Nat) × (List Nat × List Itm) × List Rul × (Nat × List Itm × List Rl) × (Bool × Nat × List Itm)
abbrev qw (q : Ps) : Nat := q.1.1
abbrev qs (q : Ps) : Nat := q.1.2.1
abbrev qd (q : Ps) : Nat := q.1.2.2
abbrev qo (q : Ps) : List Nat := q.2.1.1
abbrev qx (q : Ps) : List Itm := q.2.1.2
abbrev qn (q : Ps) : List Rul := q.2.2.1
abbrev qc (q : Ps) : Nat := q.2.2.2.1.1
abbrev qe (q : Ps) : List Itm := q.2.2.2.1.2.1
abbrev qr (q : Ps) : List Rl := q.2.2.2.1.2.2
abbrev qf (q : Ps) : Bool := q.2.2.2.2.1
abbrev qk (q : Ps) : Nat := q.2.2.2.2.2.1
abbrev ql (q : Ps) : List Itm := q.2.2.2.2.2.2
def p0 : Ps := ((0, 0, 0), ([], []), [], (0, [], []), (true, 0, []))
def fl (q : Ps) : List Itm := qx q ++ (qo q).map itm
def goB (q : Ps) (s : Nat) : Bool := if qw q = 0 then decide (s = 4) else if qw q = 1 then decide (s = 2 ∨ s = 3 ∨ s = 8) else if 15 ≤ s then true else if 0 < qd q then decide (s = 7) else if qs q = 1 then decide (11 ≤ s ∧ s ≤ 14) else if qs q = 2 then decide (s = 10 ∨ s = 9 ∨ s = 6) else decide (s = 5 ∨ s = 6)
def fauA (q : Ps) (s k : Nat) : Nat := if goB q s = false then 1 else if 400 ≤ k ∨ (s = 4 ∧ 16 ≤ (qn q).length) ∨ (s = 8 ∧ 6 ≤ qd q) then 2 else 0
def rlA (q : Ps) : List Rl := qr q ++ [(qf q, qk q, ql q, fl q)]
def ruA (q : Ps) : Rul := if qs q = 0 then (qc q, fl q, []) else (qc q, qe q, rlA q)
def stpP (q : Ps) (s v : Nat) : Ps :=
  if s = 4 then ((1, 0, 0), ([], []), qn q, (v, [], []), (true, 0, []))
  else if s = 2 then ((2, qs q, qd q), (qo q, qx q ++ [(0, v)]), q.2.2)
  else if s = 3 then ((2, qs q, qd q), (qo q, qx q ++ [(1, v)]), q.2.2)
  else if s = 8 then ((1, qs q, qd q + 1), (8 :: qo q, qx q), q.2.2)
  else if s = 7 then ((2, qs q, qd q - 1), (((qo q).dropWhile isB).tail, qx q ++ ((qo q).takeWhile isB).map itm), q.2.2)
  else if s = 5 then ((1, 1, 0), ([], []), qn q, (qc q, fl q, []), (true, 0, []))
  else if s = 6 then ((0, 0, 0), ([], []), qn q ++ [ruA q], (0, [], []), (true, 0, []))
  else if s = 17 then ((1, qs q, qd q), (17 :: (qo q).dropWhile isT, qx q ++ ((qo q).takeWhile isT).map itm), q.2.2)
  else if 15 ≤ s then ((1, qs q, qd q), (s :: (qo q).dropWhile isB, qx q ++ ((qo q).takeWhile isB).map itm), q.2.2)
  else if 11 ≤ s then ((1, 2, 0), ([], []), qn q, (qc q, qe q, qr q), (qf q, s - 11, fl q))
  else ((1, 1, 0), ([], []), qn q, (qc q, qe q, rlA q), (decide (s = 9), 0, []))
/-! the condition's steps, as far as they have come out -/
def pend : Bool → List Rl → Bool
  | po, [] => po
  | po, r :: t => pend (po || r.1) t
def emJ : Bool → List Rl → Bool → List Itm
  | po, [], o => if o then (if po then [(10, 0)] else []) else []
  | po, r :: t, o => if r.1 then (if po then [(10, 0)] else []) ++ (relJ r ++ emJ true t o) else relJ r ++ ([(9, 0)] ++ emJ po t o)
/-- what waits below the relation -/
def pwJ (p o : Bool) : List Nat := if o then [9] else 10 :: (if p then [9] else [])
theorem cndJ_snoc (r : Rl) : ∀ (t : List Rl) (po : Bool), cndJ po (t ++ [r]) = emJ po t r.1 ++ (relJ r ++ (pwJ (pend po t) r.1).map itm) := by
  intro t
  induction t with
  | nil =>
    intro po
    obtain ⟨b, x⟩ := r
    cases b <;> cases po <;> simp [cndJ, emJ, pwJ, pend, itm]
  | cons u t ih =>
    intro po
    obtain ⟨b, x⟩ := u
    cases b
    · simp [cndJ, emJ, pend, ih]
    · simp [cndJ, emJ, pend, ih]
theorem emJ_snoc (r : Rl) (o : Bool) : ∀ (t : List Rl) (po : Bool), emJ po (t ++ [r]) o = emJ po t r.1 ++ (relJ r ++ (if o then (pwJ (pend po t) r.1).map itm else if r.1 then [] else [(9, 0)])) := by
  intro t
  induction t with
  | nil =>
    intro po
    obtain ⟨b, x⟩ := r
    cases b <;> cases po <;> cases o <;> simp [emJ, pwJ, pend, itm]
  | cons u t ih =>
    intro po
    obtain ⟨b, x⟩ := u
    cases b
    · simp [emJ, pend, ih]
    · simp [emJ, pend, ih]
theorem pend_snoc (r : Rl) : ∀ (t : List Rl) (po : Bool), pend po (t ++ [r]) = (pend po t || r.1) := by
  intro t
  induction t with
  | nil => intro po; rfl
  | cons u t ih => intro po; simp [pend, ih]
def emA (rl : List Rl) (o : Bool) : List Itm := match rl with
  | [] => []
  | r :: t => relJ r ++ emJ false t o
def pwA (rl : List Rl) (o : Bool) : List Nat := match rl with
  | [] => []
  | _ :: t => pwJ (pend false t) o
theorem cndT_snoc (r : Rl) (rl : List Rl) : cndT (rl ++ [r]) = emA rl r.1 ++ (relJ r ++ (pwA rl r.1).map itm) := by
  cases rl with
  | nil => simp [cndT, cndJ, emA, pwA]
  | cons u t => simp [cndT, cndJ_snoc, emA, pwA]
/-- an 'or' lets all that waits come out, an 'and' what binds closer -/
theorem emA_or (r : Rl) (rl : List Rl) : emA (rl ++ [r]) true = emA rl r.1 ++ (relJ r ++ (pwA rl r.1).map itm) ∧ pwA (rl ++ [r]) true = [9] := by
  cases rl with
  | nil => simp [emA, emJ, pwA, pwJ]
  | cons u t => simp [emA, emJ_snoc, pwA, pwJ]
theorem emA_and (r : Rl) (rl : List Rl) : ∃ A B, pwA rl r.1 = A ++ B ∧ (A = [] ∨ A = [10]) ∧ (B = [] ∨ B = [9]) ∧ emA (rl ++ [r]) false = emA rl r.1 ++ (relJ r ++ A.map itm) ∧ ((rl = [] → r.1 = true) → pwA (rl ++ [r]) false = 10 :: B) := by
  cases rl with
  | nil => exact ⟨[], [], rfl, Or.inl rfl, Or.inl rfl, by simp [emA, emJ], fun _ => by simp [pwA, pwJ, pend]⟩
  | cons u t =>
    obtain ⟨b, x⟩ := r
    cases b
    · refine ⟨[10], if pend false t then [9] else [], by simp [pwA, pwJ], Or.inr rfl, by cases pend false t <;> simp, by simp [emA, emJ_snoc, itm], fun _ => ?_⟩
      simp [pwA, pwJ, pend_snoc]
    · refine ⟨[], [9], by simp [pwA, pwJ], Or.inl rfl, Or.inr rfl, by simp [emA, emJ_snoc], fun _ => ?_⟩
      simp [pwA, pwJ, pend_snoc]
theorem pwA_len (rl : List Rl) (o : Bool) : (pwA rl o).length ≤ 2 := by
  cases rl with
  | nil => simp [pwA]
  | cons u t =>
    show (pwJ (pend false t) o).length ≤ 2
    cases o <;> cases pend false t <;> decide
/-! operators that wait: a level between two parentheses holds one sum sign and one 'times' above it -/
def okO : List Nat → Nat → Prop
  | [], d => d = 0
  | x :: r, d => (x = 8 ∧ 1 ≤ d ∧ okO r (d - 1)) ∨ ((x = 15 ∨ x = 16) ∧ (∀ y, r.head? = some y → y = 8) ∧ okO r d) ∨ (x = 17 ∧ (∀ y, r.head? = some y → y ≠ 17) ∧ okO r d)
def blO : List Nat → Nat
  | [] => 0
  | x :: _ => if x = 17 then 2 else if x = 8 then 0 else 1
theorem okO_len : ∀ (L : List Nat) (d : Nat), okO L d → L.length ≤ 3 * d + blO L := by
  intro L
  induction L with
  | nil => intro d _; simp
  | cons x r ih =>
    intro d h
    have hb : blO r ≤ 2 := by
      cases r with
      | nil => simp [blO]
      | cons y t => simp only [blO]; split <;> (try split) <;> omega
    rcases h with ⟨h1, h2, h3⟩ | ⟨h1, h2, h3⟩ | ⟨h1, h2, h3⟩
    · have := ih _ h3
      subst h1
      simp only [List.length_cons, blO]
      simp
      omega
    · have := ih _ h3
      have e0 : blO r = 0 := by
        cases r with
        | nil => rfl
        | cons y t => simp only [blO]; rw [h2 y rfl]; rfl
      have e1 : blO (x :: r) = 1 := by
        simp only [blO]
        rcases h1 with h1 | h1 <;> rw [h1] <;> rfl
      rw [e1]
      simp only [List.length_cons]
      omega
    · have := ih _ h3
      have e0 : blO r ≤ 1 := by
        cases r with
        | nil => simp [blO]
        | cons y t =>
          simp only [blO]
          rw [if_neg (h2 y rfl)]
          split <;> omega
      have e1 : blO (x :: r) = 2 := by simp only [blO]; rw [h1]; rfl
      rw [e1]
      simp only [List.length_cons]
      omega
theorem okO_cases {L : List Nat} {d : Nat} (h : okO L d) : ∀ x ∈ L, x = 8 ∨ x = 15 ∨ x = 16 ∨ x = 17 := by
  induction L generalizing d with
  | nil => intro x hx; exact absurd hx (by simp)
  | cons y r ih =>
    intro x hx
    rcases List.mem_cons.mp hx with e | e
    · subst e
      rcases h with ⟨h1, _, _⟩ | ⟨h1, _, _⟩ | ⟨h1, _, _⟩ <;> omega
    · rcases h with ⟨_, _, h3⟩ | ⟨_, _, h3⟩ | ⟨_, _, h3⟩ <;> exact ih h3 x e
/-- below all that binds: nothing, or a parenthesis -/
theorem okO_drop {L : List Nat} {d : Nat} (h : okO L d) : okO (L.dropWhile isB) d ∧ (∀ y, (L.dropWhile isB).head? = some y → y = 8) := by
  induction L generalizing d with
  | nil => exact ⟨h, fun y z => absurd z (by simp)⟩
  | cons x r ih =>
    rcases h with ⟨h1, h2, h3⟩ | ⟨h1, h2, h3⟩ | ⟨h1, h2, h3⟩
    · subst h1
      have e : (8 :: r).dropWhile isB = 8 :: r := by simp [List.dropWhile, isB]
      rw [e]
      exact ⟨Or.inl ⟨rfl, h2, h3⟩, fun y z => by simp at z; exact z.symm⟩
    · have e : (x :: r).dropWhile isB = r.dropWhile isB := by
        have : isB x = true := by unfold isB; exact decide_eq_true (by omega)
        simp [List.dropWhile, this]
      rw [e]; exact ih h3
    · have e : (x :: r).dropWhile isB = r.dropWhile isB := by
        have : isB x = true := by unfold isB; exact decide_eq_true (by omega)
        simp [List.dropWhile, this]
      rw [e]; exact ih h3
theorem okO_dropT {L : List Nat} {d : Nat} (h : okO L d) : okO (L.dropWhile isT) d ∧ (∀ y, (L.dropWhile isT).head? = some y → y ≠ 17) := by
  cases L with
  | nil => exact ⟨h, fun y z => absurd z (by simp)⟩
  | cons x r =>
    rcases h with ⟨h1, h2, h3⟩ | ⟨h1, h2, h3⟩ | ⟨h1, h2, h3⟩
    · have e : (x :: r).dropWhile isT = x :: r := by
        have : isT x = false := by unfold isT; exact decide_eq_false (by omega)
        simp [List.dropWhile, this]
      rw [e]
      exact ⟨Or.inl ⟨h1, h2, h3⟩, fun y z => by simp at z; omega⟩
    · have e : (x :: r).dropWhile isT = x :: r := by
        have : isT x = false := by unfold isT; exact decide_eq_false (by omega)
        simp [List.dropWhile, this]
      rw [e]
      exact ⟨Or.inr (Or.inl ⟨h1, h2, h3⟩), fun y z => by simp at z; omega⟩
    · have e : (x :: r).dropWhile isT = r := by
        have : isT x = true := by unfold isT; exact decide_eq_true (by omega)
        cases r with
        | nil => simp [List.dropWhile, this]
        | cons y t =>
          have h17 := h2 y rfl
          have : isT y = false := by unfold isT; exact decide_eq_false h17
          simp [List.dropWhile, this, isT, h1, h17]
      rw [e]
      exact ⟨h3, h2⟩
