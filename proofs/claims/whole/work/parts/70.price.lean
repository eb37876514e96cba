/-! ===== prices: steps on a stack, rules, how the class runs them ===== -/
/-- a step: 0 an int, 1 a var, from 2 on an operator -/
abbrev Itm : Type := Nat × Nat
def opJ (k : Nat) (x y : Int32) : Int32 := if k = 2 then x + y else if k = 3 then x - y else if k = 4 then x * y else if k = 5 then (if x = y then 1 else 0) else if k = 6 then (if x = y then 0 else 1) else if k = 7 then (if y ≤ x then 0 else 1) else if k = 8 then (if y < x then 0 else 1) else if k = 9 then x &&& y else x ||| y
def stpJ (vr : Nat → Int32) (t : Itm) (s : List Int32) : List Int32 := if t.1 < 2 then (if t.1 = 0 then nI t.2 else vr t.2) :: s else match s with
  | y :: x :: r => opJ t.1 x y :: r
  | r => r
def runJ (vr : Nat → Int32) : List Itm → List Int32 → List Int32
  | [], s => s
  | t :: L, s => runJ vr L (stpJ vr t s)
/-- from depth d to depth e, never over 32, never short of two -/
def depJ : List Itm → Nat → Nat → Prop
  | [], d, e => d = e
  | t :: L, d, e => (t.1 < 2 ∧ d < 32 ∧ depJ L (d + 1) e) ∨ (2 ≤ t.1 ∧ 2 ≤ d ∧ depJ L (d - 1) e)
def encK (k : Nat) : Int32 := if k = 2 then -15 else if k = 3 then -16 else if k = 4 then -17 else if k = 5 then -11 else if k = 6 then -12 else if k = 7 then -13 else if k = 8 then -14 else if k = 9 then -10 else -9
def encJ (t : Itm) : Int32 := if t.1 = 0 then nI t.2 else if t.1 = 1 then -100 - nI t.2 else encK t.1
def okJ (t : Itm) : Prop := (t.1 = 0 ∧ t.2 < 10000) ∨ (t.1 = 1 ∧ t.2 < 5) ∨ (2 ≤ t.1 ∧ t.1 ≤ 10)
def SegJ (I : Nat → Nat → Int32) (c : Nat) : Nat → List Itm → Prop
  | _, [] => True
  | f, t :: L => I c f = encJ t ∧ SegJ I c (f + 1) L
def StkJ (I : Nat → Nat → Int32) (c : Nat) : List Int32 → Prop
  | [] => True
  | v :: r => I c r.length = v ∧ StkJ I c r
theorem SegJ.loc {I I' : Nat → Nat → Int32} {c : Nat} : ∀ (L : List Itm) (f : Nat), SegJ I c f L → (∀ j, f ≤ j → j < f + L.length → I' c j = I c j) → SegJ I' c f L := by
  intro L
  induction L with
  | nil => intro f _ _; trivial
  | cons t L ih =>
    intro f h hq
    refine ⟨(hq f (Nat.le_refl _) (by simp)).trans h.1, ih (f + 1) h.2 (fun j h1 h2 => hq j (by omega) (by simp at h2 ⊢; omega))⟩
theorem StkJ.loc {I I' : Nat → Nat → Int32} {c : Nat} : ∀ (s : List Int32), StkJ I c s → (∀ j, j < s.length → I' c j = I c j) → StkJ I' c s := by
  intro s
  induction s with
  | nil => intro _ _; trivial
  | cons v r ih =>
    intro h hq
    exact ⟨(hq _ (by simp)).trans h.1, ih h.2 (fun j hj => hq j (by simp; omega))⟩
theorem StkJ.push {I : Nat → Nat → Int32} {c : Nat} {s : List Int32} {v : Int32} (h : StkJ I c s) : StkJ (up I c s.length v) c (v :: s) :=
  ⟨by rw [up_at, if_pos ⟨rfl, rfl⟩], h.loc s (fun j hj => by rw [up_at, if_neg (by omega)])⟩
theorem runJ_app (vr : Nat → Int32) : ∀ (L M : List Itm) (s : List Int32), runJ vr (L ++ M) s = runJ vr M (runJ vr L s) := by
  intro L
  induction L with
  | nil => intro M s; rfl
  | cons t L ih => intro M s; exact ih M _
theorem runJ_frame (vr : Nat → Int32) : ∀ (L : List Itm) (d e : Nat) (s1 : List Int32), depJ L d e → s1.length = d → ∃ s2, s2.length = e ∧ ∀ s, runJ vr L (s1 ++ s) = s2 ++ s := by
  intro L
  induction L with
  | nil => intro d e s1 h hs; exact ⟨s1, hs.trans h, fun s => rfl⟩
  | cons t L ih =>
    intro d e s1 h hs
    rcases h with ⟨h1, _, h3⟩ | ⟨h1, h2, h3⟩
    · obtain ⟨s2, q1, q2⟩ := ih (d + 1) e ((if t.1 = 0 then nI t.2 else vr t.2) :: s1) h3 (by simp [hs])
      refine ⟨s2, q1, fun s => ?_⟩
      have := q2 s
      simp only [runJ, stpJ, if_pos h1]
      exact this
    · match s1, hs with
      | [], hs => simp at hs; omega
      | [_], hs => simp at hs; omega
      | y :: x :: r, hs =>
        obtain ⟨s2, q1, q2⟩ := ih (d - 1) e (opJ t.1 x y :: r) h3 (by simp at hs ⊢; omega)
        refine ⟨s2, q1, fun s => ?_⟩
        have := q2 s
        simp only [runJ, stpJ, if_neg (show ¬ t.1 < 2 by omega)]
        exact this
def valJ (vr : Nat → Int32) (E : List Itm) : Int32 := (runJ vr E []).headD 0
def wfE (E : List Itm) : Prop := (∀ t ∈ E, okJ t ∧ t.1 < 5) ∧ depJ E 0 1
theorem valJ_run {vr : Nat → Int32} {E : List Itm} (h : depJ E 0 1) (s : List Int32) : runJ vr E s = valJ vr E :: s := by
  obtain ⟨s2, q1, q2⟩ := runJ_frame vr E 0 1 [] h rfl
  match s2, q1 with
  | [v], _ =>
    have e1 := q2 []
    have e2 := q2 s
    simp at e1 e2
    rw [e2]
    unfold valJ
    rw [e1]
    rfl
/-! rules -/
/-- whether 'or' stands ahead; the sort; both sides -/
abbrev Rl : Type := Bool × Nat × List Itm × List Itm
abbrev Rul : Type := Nat × List Itm × List Rl
def relJ (r : Rl) : List Itm := r.2.2.1 ++ (r.2.2.2 ++ [(5 + r.2.1, 0)])
def cndJ : Bool → List Rl → List Itm
  | po, [] => if po then [(10, 0)] else []
  | po, r :: t => if r.1 then (if po then [(10, 0)] else []) ++ (relJ r ++ cndJ true t) else relJ r ++ ([(9, 0)] ++ cndJ po t)
def cndT : List Rl → List Itm
  | [] => []
  | r :: t => relJ r ++ cndJ false t
def relB (vr : Nat → Int32) (r : Rl) : Bool := decide (opJ (5 + r.2.1) (valJ vr r.2.2.1) (valJ vr r.2.2.2) = 1)
def hB (vr : Nat → Int32) : Bool → Bool → List Rl → Bool
  | ac, cu, [] => ac || cu
  | ac, cu, r :: t => if r.1 then hB vr (ac || cu) (relB vr r) t else hB vr ac (cu && relB vr r) t
def holdsJ (vr : Nat → Int32) : List Rl → Bool
  | [] => true
  | r :: t => hB vr false (relB vr r) t
def V_rel (r : Rl) : Prop := r.2.1 < 4 ∧ wfE r.2.2.1 ∧ wfE r.2.2.2
def V_rul (u : Rul) : Prop := u.1 < 6 ∧ wfE u.2.1 ∧ (∀ r ∈ u.2.2, V_rel r) ∧ (u.2.2 ≠ [] → depJ (cndT u.2.2) 0 1) ∧ ∀ r t, u.2.2 = r :: t → r.1 = true
theorem relJ_run {vr : Nat → Int32} {r : Rl} (h : V_rel r) (s : List Int32) : runJ vr (relJ r) s = nz (relB vr r) :: s := by
  unfold relJ
  rw [runJ_app, runJ_app, valJ_run h.2.1.2, valJ_run h.2.2.2]
  show stpJ vr (5 + r.2.1, 0) (valJ vr r.2.2.2 :: valJ vr r.2.2.1 :: s) = _
  unfold stpJ
  rw [if_neg (show ¬ 5 + r.2.1 < 2 by omega)]
  show opJ (5 + r.2.1) (valJ vr r.2.2.1) (valJ vr r.2.2.2) :: s = _
  unfold relB
  congr 1
  have h4 := h.1
  have hk : r.2.1 = 0 ∨ r.2.1 = 1 ∨ r.2.1 = 2 ∨ r.2.1 = 3 := by omega
  generalize valJ vr r.2.2.1 = x
  generalize valJ vr r.2.2.2 = y
  rcases hk with e | e | e | e <;> rw [e] <;> simp only [opJ] <;> simp only [Nat.reduceAdd, Nat.reduceEqDiff, if_false, if_true]
  · by_cases q : x = y <;> simp [q, nz]
  · by_cases q : x = y <;> simp [q, nz]
  · by_cases q : y ≤ x <;> simp [q, nz]
  · by_cases q : y < x <;> simp [q, nz]
theorem nz_and (x y : Bool) : nz x &&& nz y = nz (x && y) := by cases x <;> cases y <;> decide
theorem nz_or (x y : Bool) : nz x ||| nz y = nz (x || y) := by cases x <;> cases y <;> decide
theorem cndJ_run {vr : Nat → Int32} : ∀ (t : List Rl) (po ac cu : Bool) (s : List Int32), (∀ r ∈ t, V_rel r) → runJ vr (cndJ po t) (nz cu :: ((if po then [nz ac] else []) ++ s)) = nz (hB vr (po && ac) cu t) :: s := by
  intro t
  induction t with
  | nil =>
    intro po ac cu s _
    cases po
    · simp [cndJ, runJ, hB]
    · simp [cndJ, runJ, hB, stpJ, opJ, nz_or]
  | cons r t ih =>
    intro po ac cu s hv
    have hr := hv r (by simp)
    have ht : ∀ x ∈ t, V_rel x := fun x hx => hv x (by simp [hx])
    unfold cndJ hB
    by_cases q : r.1 = true
    · rw [if_pos q, if_pos q, runJ_app, runJ_app]
      cases po
      · have := ih true cu (relB vr r) s ht
        simp only [Bool.false_eq_true, if_false, runJ, List.nil_append, relJ_run hr] at this ⊢
        simpa using this
      · have := ih true (ac || cu) (relB vr r) s ht
        have e : runJ vr [(10, 0)] (nz cu :: (([nz ac] : List Int32) ++ s)) = nz (ac || cu) :: s := by
          simp [runJ, stpJ, opJ, nz_or]
        simp only [if_true]
        rw [e, relJ_run hr]
        simpa using this
    · rw [if_neg q, if_neg q, runJ_app, runJ_app, relJ_run hr]
      have := ih po ac (cu && relB vr r) s ht
      have e : runJ vr [(9, 0)] (nz (relB vr r) :: nz cu :: ((if po then [nz ac] else []) ++ s)) = nz (cu && relB vr r) :: ((if po then [nz ac] else []) ++ s) := by
        simp [runJ, stpJ, opJ, nz_and]
      rw [e]
      exact this
theorem cndT_run {vr : Nat → Int32} {t : List Rl} (hv : ∀ r ∈ t, V_rel r) (hn : t ≠ []) : runJ vr (cndT t) [] = [nz (holdsJ vr t)] := by
  match t, hn with
  | r :: t, _ =>
    unfold cndT holdsJ
    rw [runJ_app, relJ_run (hv r (by simp))]
    have := cndJ_run (vr := vr) t false false (relB vr r) [] (fun x hx => hv x (by simp [hx]))
    simpa using this
theorem okJ_rel {r : Rl} (h : V_rel r) : ∀ t ∈ relJ r, okJ t := by
  intro t ht
  unfold relJ at ht
  simp only [List.mem_append, List.mem_singleton] at ht
  rcases ht with ht | ht | ht
  · exact (h.2.1.1 t ht).1
  · exact (h.2.2.1 t ht).1
  · rw [ht]; have := h.1; right; right; show 2 ≤ 5 + r.2.1 ∧ 5 + r.2.1 ≤ 10; omega
theorem okJ_cnd : ∀ (t : List Rl) (po : Bool), (∀ r ∈ t, V_rel r) → ∀ x ∈ cndJ po t, okJ x := by
  intro t
  induction t with
  | nil =>
    intro po _ x hx
    cases po
    · simp [cndJ] at hx
    · simp [cndJ] at hx; rw [hx]; right; right; decide
  | cons r t ih =>
    intro po hv x hx
    have hr := hv r (by simp)
    have ht : ∀ y ∈ t, V_rel y := fun y hy => hv y (by simp [hy])
    unfold cndJ at hx
    by_cases q : r.1 = true
    · rw [if_pos q] at hx
      simp only [List.mem_append] at hx
      rcases hx with hx | hx | hx
      · cases po
        · simp at hx
        · simp at hx; rw [hx]; right; right; decide
      · exact okJ_rel hr x hx
      · exact ih true ht x hx
    · rw [if_neg q] at hx
      simp only [List.mem_append, List.mem_singleton] at hx
      rcases hx with hx | hx | hx
      · exact okJ_rel hr x hx
      · rw [hx]; right; right; decide
      · exact ih po ht x hx
theorem okJ_cndT {t : List Rl} (hv : ∀ r ∈ t, V_rel r) : ∀ x ∈ cndT t, okJ x := by
  intro x hx
  match t, hx with
  | r :: t, hx =>
    unfold cndT at hx
    rw [List.mem_append] at hx
    rcases hx with hx | hx
    · exact okJ_rel (hv r (by simp)) x hx
    · exact okJ_cnd t false (fun y hy => hv y (by simp [hy])) x hx
theorem cndT_pos {t : List Rl} (hn : t ≠ []) : 0 < (cndT t).length := by
  match t, hn with
  | r :: t, _ =>
    unfold cndT relJ
    simp
    omega
def gR (Rs : List Rul) (k : Nat) : Rul := Rs.getD k (0, [], [])
def frJ (vr : Nat → Int32) (srt : Nat) (Rs : List Rul) : Nat → Nat → Int32
  | 0, _ => -1
  | j + 1, k => if (gR Rs k).1 = srt ∧ holdsJ vr (gR Rs k).2.2 = true then nI k else frJ vr srt Rs j (k + 1)
theorem frJ_or {vr : Nat → Int32} {srt : Nat} {Rs : List Rul} : ∀ j k, frJ vr srt Rs j k = -1 ∨ ∃ r, k ≤ r ∧ r < k + j ∧ frJ vr srt Rs j k = nI r := by
  intro j
  induction j with
  | zero => intro k; exact Or.inl rfl
  | succ j ih =>
    intro k
    simp only [frJ]
    by_cases h : (gR Rs k).1 = srt ∧ holdsJ vr (gR Rs k).2.2 = true
    · rw [if_pos h]; exact Or.inr ⟨k, by omega, by omega, rfl⟩
    · rw [if_neg h]
      rcases ih (k + 1) with q | ⟨r, q1, q2, q3⟩
      · exact Or.inl q
      · exact Or.inr ⟨r, by omega, by omega, q3⟩
def firJ (vr : Nat → Int32) (srt : Nat) (Rs : List Rul) : Int32 := frJ vr srt Rs Rs.length 0
def hldJ (v : Int32) : Int32 := if (0 : Int32) < (if v < (1000 : Int32) then v else (1000 : Int32)) then (if v < (1000 : Int32) then v else (1000 : Int32)) else (0 : Int32)
def wthJ (vr : Nat → Int32) (Rs : List Rul) (r : Nat) : Int32 := hldJ (valJ vr (gR Rs r).2.1)
def V_prc (Rs : List Rul) : Prop := Rs.length ≤ 16 ∧ ∀ r, r < Rs.length → V_rul (gR Rs r)
/-- the class's rules at p -/
def PrC (I : Nat → Nat → Int32) (p : Nat) (Rs : List Rul) : Prop := I p 0 = nI Rs.length ∧ ∃ fo : Nat → Nat, ∀ r, r < Rs.length → fo r + (gR Rs r).2.1.length + (cndT (gR Rs r).2.2).length ≤ 400 ∧ I (p + 1) r = nI (gR Rs r).1 ∧ I (p + 2) r = nI (fo r) ∧ I (p + 3) r = nI (fo r + (gR Rs r).2.1.length) ∧ I (p + 4) r = nI (fo r + (gR Rs r).2.1.length + (cndT (gR Rs r).2.2).length) ∧ SegJ I (p + 5) (fo r) (gR Rs r).2.1 ∧ SegJ I (p + 5) (fo r + (gR Rs r).2.1.length) (cndT (gR Rs r).2.2)
theorem PrC.loc {I I' : Nat → Nat → Int32} {p : Nat} {Rs : List Rul} (h : PrC I p Rs) (hq : ∀ b j, p ≤ b → b < p + 6 → I' b j = I b j) : PrC I' p Rs := by
  obtain ⟨h1, fo, h2⟩ := h
  refine ⟨(hq _ _ (by omega) (by omega)).trans h1, fo, fun r hr => ?_⟩
  obtain ⟨q1, q2, q3, q4, q5, q6, q7⟩ := h2 r hr
  exact ⟨q1, (hq _ _ (by omega) (by omega)).trans q2, (hq _ _ (by omega) (by omega)).trans q3, (hq _ _ (by omega) (by omega)).trans q4, (hq _ _ (by omega) (by omega)).trans q5, q6.loc _ _ (fun j _ _ => hq _ _ (by omega) (by omega)), q7.loc _ _ (fun j _ _ => hq _ _ (by omega) (by omega))⟩
section PRC
variable {γ : rG} {l : Launch} {sh : Nat × (Nat → Nat) × (Nat → Nat)} {I : Nat → Nat → Int32} {J : Nat → Nat → Int64} {R : Nat → Nat → Option Nat} {p : Nat} {vr : Nat → Int32} {Rs : List Rul}
theorem ct_joined {k : Nat} {x y : Int32} (hk : 2 ≤ k ∧ k ≤ 10) : rMet γ l m_X3_joined [.int (-(encK k)), .int x, .int y] (sh, I, J, R) (sh, I, J, R) (some (.int (opJ k x y))) := by
  refine e_X3_joined (rW_pure (w_X3_joined_0 ?_))
  have h : k = 2 ∨ k = 3 ∨ k = 4 ∨ k = 5 ∨ k = 6 ∨ k = 7 ∨ k = 8 ∨ k = 9 ∨ k = 10 := by omega
  rcases h with rfl | rfl | rfl | rfl | rfl | rfl | rfl | rfl | rfl
  · rw [show -(encK 2) = (15 : Int32) from by decide]
    exact ⟨fun z => absurd z (by decide), fun _ => ⟨fun z => absurd z (by decide), fun _ => ⟨fun z => absurd z (by decide), fun _ => ⟨fun z => absurd z (by decide), fun _ => ⟨fun z => absurd z (by decide), fun _ => ⟨fun _ => ⟨rfl, rfl⟩, fun z => absurd rfl z⟩⟩⟩⟩⟩⟩
  · rw [show -(encK 3) = (16 : Int32) from by decide]
    exact ⟨fun z => absurd z (by decide), fun _ => ⟨fun z => absurd z (by decide), fun _ => ⟨fun z => absurd z (by decide), fun _ => ⟨fun z => absurd z (by decide), fun _ => ⟨fun z => absurd z (by decide), fun _ => ⟨fun z => absurd z (by decide), fun _ => ⟨fun _ => ⟨rfl, rfl⟩, fun z => absurd rfl z⟩⟩⟩⟩⟩⟩⟩
  · rw [show -(encK 4) = (17 : Int32) from by decide]
    exact ⟨fun z => absurd z (by decide), fun _ => ⟨fun z => absurd z (by decide), fun _ => ⟨fun z => absurd z (by decide), fun _ => ⟨fun z => absurd z (by decide), fun _ => ⟨fun z => absurd z (by decide), fun _ => ⟨fun z => absurd z (by decide), fun _ => ⟨fun z => absurd z (by decide), fun _ => ⟨fun _ => ⟨rfl, rfl⟩, fun z => absurd rfl z⟩⟩⟩⟩⟩⟩⟩⟩
  · rw [show -(encK 5) = (11 : Int32) from by decide]
    exact ⟨fun z => absurd z (by decide), fun _ => ⟨fun _ => ⟨fun z => ⟨rfl, by simp [opJ, z]⟩, fun z => ⟨rfl, by simp [opJ, z]⟩⟩, fun z => absurd rfl z⟩⟩
  · rw [show -(encK 6) = (12 : Int32) from by decide]
    exact ⟨fun z => absurd z (by decide), fun _ => ⟨fun z => absurd z (by decide), fun _ => ⟨fun _ => ⟨fun z => ⟨rfl, by simp [opJ, z]⟩, fun z => ⟨rfl, by simp [opJ, z]⟩⟩, fun z => absurd rfl z⟩⟩⟩
  · rw [show -(encK 7) = (13 : Int32) from by decide]
    exact ⟨fun z => absurd z (by decide), fun _ => ⟨fun z => absurd z (by decide), fun _ => ⟨fun z => absurd z (by decide), fun _ => ⟨fun _ => ⟨fun z => ⟨rfl, by simp [opJ, z]⟩, fun z => ⟨rfl, by simp [opJ, z]⟩⟩, fun z => absurd rfl z⟩⟩⟩⟩
  · rw [show -(encK 8) = (14 : Int32) from by decide]
    exact ⟨fun z => absurd z (by decide), fun _ => ⟨fun z => absurd z (by decide), fun _ => ⟨fun z => absurd z (by decide), fun _ => ⟨fun z => absurd z (by decide), fun _ => ⟨fun _ => ⟨fun z => ⟨rfl, by simp [opJ, z]⟩, fun z => ⟨rfl, by simp [opJ, z]⟩⟩, fun z => absurd rfl z⟩⟩⟩⟩⟩
  · rw [show -(encK 9) = (10 : Int32) from by decide]
    exact ⟨fun _ => ⟨rfl, rfl⟩, fun z => absurd rfl z⟩
  · rw [show -(encK 10) = (9 : Int32) from by decide]
    exact ⟨fun z => absurd z (by decide), fun _ => ⟨fun z => absurd z (by decide), fun _ => ⟨fun z => absurd z (by decide), fun _ => ⟨fun z => absurd z (by decide), fun _ => ⟨fun z => absurd z (by decide), fun _ => ⟨fun z => absurd z (by decide), fun _ => ⟨fun z => absurd z (by decide), fun _ => ⟨fun z => absurd z (by decide), fun _ => ⟨rfl, rfl⟩⟩⟩⟩⟩⟩⟩⟩⟩
theorem ct_varOf {i : Nat} (hA : At3 sh R p) (hi : i < 5) : rMet γ l m_X3_varOf [.ref p, .int (-100 - nI i)] (sh, I, J, R) (sh, I, J, R) (some (.int (I (p + 6) i))) := by
  have e : (-100 : Int32) - (-100 - nI i) = nI i := by
    have : ∀ i : Fin 5, (-100 : Int32) - (-100 - nI i.val) = nI i.val := by decide
    exact this ⟨i, hi⟩
  refine e_X3_varOf (rW_pure (w_X3_varOf_0 hA ?_))
  rw [e]
  refine ⟨fun z => absurd z (nI_pos (by omega)), fun _ => ⟨fun z => absurd z (nI_ge hi (by decide)), fun _ => ⟨vp_in_nI hi (by decide), rfl, ?_⟩⟩⟩
  rw [nI_clamp (by omega)]
theorem run_loop (hA : At3 sh R p) (hvr : ∀ i, i < 5 → I (p + 6) i = vr i) (w : Int32) : ∀ (L : List Itm) (i : Nat) (s : List Int32) (I1 : Nat → Nat → Int32), (∀ t ∈ L, okJ t) → i + L.length ≤ 400 → SegJ I (p + 5) i L → (∀ b j, b ≠ p + 7 → I1 b j = I b j) → StkJ I1 (p + 7) s → s.length ≤ 32 → depJ L s.length 1 → runJ vr L s = [w] →
    s_X3_run_5 γ l p (nI (i + L.length)) (nI s.length) (nI i) (sh, I1, J, R) (fun hf v => ∃ I', hf = (sh, I', J, R) ∧ v = some (.int w) ∧ Sm (fun b _ => b = p + 7) I I') := by
  intro L
  induction L with
  | nil =>
    intro i s I1 _ hlen _ hI1 hS _ hd hr
    have hlen : i ≤ 400 := hlen
    refine w_X3_run_5 hA ⟨fun _ => ⟨pk_in 0 32 (by decide), I1, rfl, ?_, fun b j q => hI1 b j q⟩, fun z => absurd (nI_le (by simp) (show i < 2 ^ 31 by omega)) z⟩
    have hr' : s = [w] := hr
    subst hr'
    have := hS.1
    simp at this
    rw [show (0 : Int32).toNatClampNeg = 0 from by decide, this]
  | cons t L ih =>
    intro i s I1 hok hlen hseg hI1 hS hs32 hd hr
    have hok' : ∀ x ∈ L, okJ x := fun x hx => hok x (by simp [hx])
    have hlen' : i + 1 + L.length ≤ 400 := by simp at hlen; omega
    have est : I1 (p + 5) i = encJ t := (hI1 _ _ (by omega)).trans hseg.1
    have elen : i + (t :: L).length = i + 1 + L.length := by simp; omega
    have hot := hok t (by simp)
    have hg : ¬ nI (i + 1 + L.length) ≤ nI i := nI_ge (by omega) (by omega)
    rw [elen]
    rcases hd with ⟨d1, d2, d3⟩ | ⟨d1, d2, d3⟩
    · -- a push
      have go : ∀ v : Int32, v = (if t.1 = 0 then nI t.2 else vr t.2) → s_X3_run_5 γ l p (nI (i + 1 + L.length)) (nI (s.length + 1)) (nI (i + 1)) (sh, up I1 (p + 7) s.length v, J, R) (fun hf v => ∃ I', hf = (sh, I', J, R) ∧ v = some (.int w) ∧ Sm (fun b _ => b = p + 7) I I') := by
        intro v hv
        have := ih (i + 1) (v :: s) (up I1 (p + 7) s.length v) hok' hlen' hseg.2 (fun b j q => by rw [up_at, if_neg (fun z => q z.1)]; exact hI1 b j q) hS.push (by simp; omega) (by simpa using d3) (by
          have e : runJ vr (t :: L) s = runJ vr L (v :: s) := by simp only [runJ, stpJ, if_pos d1, hv]
          rw [← e]; exact hr)
        simpa using this
      have g32 : ¬ (nI 32 ≤ nI s.length) := nI_ge d2 (by decide)
      refine w_X3_run_5 hA ⟨fun z => absurd z hg, fun _ => ⟨vp_in_nI (by omega) (by decide), ?_⟩⟩
      rw [nI_clamp (by omega), est]
      rcases hot with ⟨o1, o2⟩ | ⟨o1, o2⟩ | ⟨o1, o2⟩
      · have e : encJ t = nI t.2 := by unfold encJ; rw [if_pos o1]
        rw [e]
        refine ⟨fun _ => w_X3_run_32 hA ⟨fun z => absurd z g32, fun _ => ⟨fun z => absurd z (nI_pos (by omega)), fun _ => ⟨vp_in_nI d2 (by decide), ?_⟩⟩⟩, fun z => absurd (nI_pos' (by omega)) z⟩
        rw [nI_clamp (by omega), nI_1, nI_1]
        exact go _ (by rw [if_pos o1])
      · have e : encJ t = -100 - nI t.2 := by unfold encJ; rw [if_neg (by omega), if_pos o1]
        have f1 : ¬ (0 : Int32) ≤ -100 - nI t.2 ∧ ¬ (-100 : Int32) < -100 - nI t.2 ∧ (-100 - nI t.2 : Int32) < 0 := by
          have : ∀ i : Fin 5, ¬ (0 : Int32) ≤ -100 - nI i.val ∧ ¬ (-100 : Int32) < -100 - nI i.val ∧ (-100 - nI i.val : Int32) < 0 := by decide
          exact this ⟨t.2, o2⟩
        rw [e]
        refine ⟨fun z => absurd z f1.1, fun _ => ⟨fun z => absurd z f1.2.1, fun _ => w_X3_run_32 hA ⟨fun z => absurd z g32, fun _ => ⟨fun _ => ⟨_, ct_varOf hA o2, vp_in_nI d2 (by decide), ?_⟩, fun z => absurd f1.2.2 z⟩⟩⟩⟩
        rw [nI_clamp (by omega), nI_1, nI_1]
        exact go _ (by rw [if_neg (by omega), hI1 _ _ (by omega)]; exact hvr _ o2)
      · omega
    · -- an operator
      have o2 : 2 ≤ t.1 ∧ t.1 ≤ 10 := by
        rcases hot with ⟨o1, _⟩ | ⟨o1, _⟩ | o1
        · omega
        · omega
        · exact o1
      have e : encJ t = encK t.1 := by unfold encJ; rw [if_neg (by omega), if_neg (by omega)]
      have f1 : ¬ (0 : Int32) ≤ encK t.1 ∧ (-100 : Int32) < encK t.1 := by
        have : ∀ i : Fin 11, 2 ≤ i.val → ¬ (0 : Int32) ≤ encK i.val ∧ (-100 : Int32) < encK i.val := by decide
        exact this ⟨t.1, by omega⟩ d1
      match s, hS, hs32, d2, d3, hr with
      | [], _, _, d2, _, _ => simp at d2
      | [_], _, _, d2, _, _ => simp at d2
      | y :: x :: r, hS, hs32, d2, d3, hr =>
        have hy := hS.1
        have hx := hS.2.1
        simp only [List.length_cons] at hy hs32 d3
        have e1 : nI (y :: x :: r).length + (-1 : Int32) = nI (r.length + 1) := pk_m1 _
        have e2 : nI (r.length + 1) - (1 : Int32) = nI r.length := nI_pred _
        refine w_X3_run_5 hA ⟨fun z => absurd z hg, fun _ => ⟨vp_in_nI (by omega) (by decide), ?_⟩⟩
        rw [nI_clamp (show i < 2 ^ 31 by omega), est, e, e1, e2, nI_clamp (show r.length < 2 ^ 31 by omega), nI_clamp (show r.length + 1 < 2 ^ 31 by omega), hx, hy, nI_1]
        have v1 : vp_in (nI r.length) 32 := vp_in_nI (by omega) (by decide)
        have v2 : vp_in (nI (r.length + 1)) 32 := vp_in_nI (by omega) (by decide)
        refine ⟨fun z => absurd z f1.1, fun _ => ⟨fun _ => ⟨fun z => absurd z (nI_nlt (by simp) (by simp; omega)), fun _ => ⟨v1, v2, _, ct_joined o2, v1, ?_⟩⟩, fun z => absurd f1.2 z⟩⟩
        have := ih (i + 1) (opJ t.1 x y :: r) (up I1 (p + 7) r.length (opJ t.1 x y)) hok' hlen' hseg.2 (fun b j q => by rw [up_at, if_neg (fun z => q z.1)]; exact hI1 b j q) hS.2.2.push (by simp; omega) (by simpa using d3) (by
          have e : runJ vr (t :: L) (y :: x :: r) = runJ vr L (opJ t.1 x y :: r) := by simp only [runJ, stpJ, if_neg (show ¬ t.1 < 2 by omega)]
          rw [← e]; exact hr)
        exact this
theorem ct_run {L : List Itm} {f : Nat} {w : Int32} (hA : At3 sh R p) (hvr : ∀ i, i < 5 → I (p + 6) i = vr i) (hok : ∀ t ∈ L, okJ t) (hlen : f + L.length ≤ 400) (hseg : SegJ I (p + 5) f L) (hd : depJ L 0 1) (hr : runJ vr L [] = [w]) :
    ∃ I', rMet γ l m_X3_run [.ref p, .int (nI f), .int (nI (f + L.length))] (sh, I, J, R) (sh, I', J, R) (some (.int w)) ∧ Sm (fun b _ => b = p + 7) I I' := by
  have lp := run_loop (γ := γ) (l := l) (J := J) hA hvr w L f [] I hok hlen hseg (fun _ _ _ => rfl) trivial (by simp) hd hr
  obtain ⟨I', h1, h2⟩ := rW_ex (w_X3_run_0 hA lp)
  exact ⟨I', e_X3_run h1, h2⟩
theorem ct_held {v : Int32} : rMet γ l m_X8_held [.int v] (sh, I, J, R) (sh, I, J, R) (some (.int (hldJ v))) := e_X8_held (rW_pure (w_X8_held_0 ⟨rfl, rfl⟩))
/-- only the stack changes -/
theorem ct_worth {r : Nat} (hA : At3 sh R p) (hV : V_prc Rs) (hC : PrC I p Rs) (hvr : ∀ i, i < 5 → I (p + 6) i = vr i) (hr : r < Rs.length) :
    ∃ I', rMet γ l m_X3_worth [.ref p, .int (nI r)] (sh, I, J, R) (sh, I', J, R) (some (.int (wthJ vr Rs r))) ∧ Sm (fun b _ => b = p + 7) I I' := by
  have h16 := hV.1
  obtain ⟨v1, v2, v3, v4, v5⟩ := hV.2 r hr
  obtain ⟨_, fo, h2⟩ := hC
  obtain ⟨q1, q2, q3, q4, q5, q6, q7⟩ := h2 r hr
  obtain ⟨I', c1, c2⟩ := ct_run (γ := γ) (l := l) (J := J) (vr := vr) (w := valJ vr (gR Rs r).2.1) hA hvr (fun t ht => (v2.1 t ht).1) (by omega) q6 v2.2 (valJ_run v2.2 [])
  have key : s_X3_worth_0 γ l p (nI r) (sh, I, J, R) (fun hf v => ∃ I', hf = (sh, I', J, R) ∧ v = some (.int (wthJ vr Rs r)) ∧ Sm (fun b _ => b = p + 7) I I') := by
    have hv : vp_in (nI r) 16 := vp_in_nI (by omega) (by decide)
    refine w_X3_worth_0 hA ⟨hv, hv, ?_⟩
    rw [nI_clamp (by omega), q3, q4]
    exact ⟨I', _, c1, _, ct_held, I', rfl, rfl, c2⟩
  obtain ⟨I', h1, h2⟩ := rW_ex key
  exact ⟨I', e_X3_worth h1, h2⟩
theorem firstRule_loop {srt : Nat} (hA : At3 sh R p) (hV : V_prc Rs) (hC : PrC I p Rs) (hs : srt < 2 ^ 31) (hvr : ∀ i, i < 5 → I (p + 6) i = vr i) : ∀ j k (I1 : Nat → Nat → Int32), k + j = Rs.length → Sm (fun b _ => b = p + 7) I I1 → s_X3_firstRule_2 γ l p (nI srt) (nI k) (sh, I1, J, R) (fun hf v => ∃ I', hf = (sh, I', J, R) ∧ v = some (.int (frJ vr srt Rs j k)) ∧ Sm (fun b _ => b = p + 7) I I') := by
  have h16 := hV.1
  intro j
  induction j with
  | zero =>
    intro k I1 hk hS
    refine w_X3_firstRule_2 hA ⟨fun _ => ⟨I1, rfl, rfl, hS⟩, fun z => absurd ?_ z⟩
    rw [hS p 0 (by simp), hC.1]; exact nI_le (by omega) (by omega)
  | succ j ih =>
    intro k I1 hk hS
    have hr : k < Rs.length := by omega
    obtain ⟨v1, v2, v3, v4, v5⟩ := hV.2 k hr
    have hC1 : PrC I1 p Rs := hC.loc (fun b j q1 q2 => hS b j (by simp; omega))
    obtain ⟨_, fo, h2⟩ := id hC1
    obtain ⟨q1, q2, q3, q4, q5, q6, q7⟩ := h2 k hr
    have hv : vp_in (nI k) 16 := vp_in_nI (by omega) (by decide)
    have hcl : (nI k).toNatClampNeg = k := nI_clamp (by omega)
    have hvr1 : ∀ i, i < 5 → I1 (p + 6) i = vr i := fun i hi => (hS _ _ (by simp)).trans (hvr i hi)
    have nx : (¬ ((gR Rs k).1 = srt ∧ holdsJ vr (gR Rs k).2.2 = true)) → ∀ I2, Sm (fun b _ => b = p + 7) I I2 → s_X3_firstRule_2 γ l p (nI srt) (nI k + 1) (sh, I2, J, R) (fun hf v => ∃ I', hf = (sh, I', J, R) ∧ v = some (.int (frJ vr srt Rs (j + 1) k)) ∧ Sm (fun b _ => b = p + 7) I I') := by
      intro hn I2 h2
      have := ih (k + 1) I2 (by omega) h2
      simp only [frJ, if_neg hn]
      rw [nI_1]
      exact this
    have yes : ((gR Rs k).1 = srt ∧ holdsJ vr (gR Rs k).2.2 = true) → frJ vr srt Rs (j + 1) k = nI k := fun h => by simp only [frJ, if_pos h]
    have b30 : ∀ s0 : Int32, (s0 = 0 ↔ (gR Rs k).2.2 ≠ []) → s_X3_firstRule_30 γ l p (nI srt) (nI k) s0 (sh, I1, J, R) (fun hf v => ∃ I', hf = (sh, I', J, R) ∧ v = some (.int (frJ vr srt Rs (j + 1) k)) ∧ Sm (fun b _ => b = p + 7) I I') := by
      intro s0 hs0
      refine w_X3_firstRule_30 hA ⟨hv, ?_⟩
      rw [hcl, q2, q4, q5, nI_eq (by omega) hs]
      refine ⟨fun z => ⟨fun y => ?_, fun y => ?_⟩, fun z => nx (fun w => z w.1) I1 hS⟩
      · have hne := hs0.mp y
        obtain ⟨I', c1, c2⟩ := ct_run (γ := γ) (l := l) (J := J) (vr := vr) (w := nz (holdsJ vr (gR Rs k).2.2)) hA hvr1 (okJ_cndT v3) (by omega) q7 (v4 hne) (cndT_run v3 hne)
        refine ⟨hv, hv, I', _, c1, fun x => ?_, fun x => ?_⟩
        · exact nx (fun w => by rw [w.2] at x; exact absurd x (by decide)) I' (hS.tr c2)
        · refine ⟨I', rfl, ?_, hS.tr c2⟩
          rw [yes ⟨z, by cases q : holdsJ vr (gR Rs k).2.2; rw [q] at x; exact absurd rfl x; rfl⟩]
      · refine ⟨I1, rfl, ?_, hS⟩
        have hnil : (gR Rs k).2.2 = [] := Classical.byContradiction (fun w => y (hs0.mpr w))
        rw [yes ⟨z, by rw [hnil]; rfl⟩]
    refine w_X3_firstRule_2 hA ⟨fun z => absurd z ?_, fun _ => ⟨hv, hv, ?_⟩⟩
    · rw [hC1.1]; exact nI_ge hr (by omega)
    · rw [hcl, q4, q5, nI_eq (by omega) (by omega)]
      refine ⟨fun z => b30 _ ⟨fun w => absurd w (by decide), fun w => ?_⟩, fun z => b30 _ ⟨fun _ w => ?_, fun _ => rfl⟩⟩
      · have := cndT_pos w; omega
      · rw [w] at z; exact z (by simp [cndT])
theorem ct_firstRule {srt : Nat} (hA : At3 sh R p) (hV : V_prc Rs) (hC : PrC I p Rs) (hs : srt < 2 ^ 31) (hvr : ∀ i, i < 5 → I (p + 6) i = vr i) :
    ∃ I', rMet γ l m_X3_firstRule [.ref p, .int (nI srt)] (sh, I, J, R) (sh, I', J, R) (some (.int (firJ vr srt Rs))) ∧ Sm (fun b _ => b = p + 7) I I' := by
  obtain ⟨I', h1, h2⟩ := rW_ex (w_X3_firstRule_0 hA (firstRule_loop (γ := γ) (l := l) (J := J) hA hV hC hs hvr Rs.length 0 I (by omega) Sm.rf))
  exact ⟨I', e_X3_firstRule h1, h2⟩
/-- the worth of the first rule, or what is without -/
def fwJ (vr : Nat → Int32) (srt : Nat) (wo : Int32) (Rs : List Rul) : Int32 := if firJ vr srt Rs = -1 then wo else wthJ vr Rs (firJ vr srt Rs).toNatClampNeg
theorem ct_worthOfFirst {srt : Nat} {wo : Int32} (hA : At3 sh R p) (hV : V_prc Rs) (hC : PrC I p Rs) (hs : srt < 2 ^ 31) (hvr : ∀ i, i < 5 → I (p + 6) i = vr i) :
    ∃ I', rMet γ l m_X3_worthOfFirst [.ref p, .int (nI srt), .int wo] (sh, I, J, R) (sh, I', J, R) (some (.int (fwJ vr srt wo Rs))) ∧ Sm (fun b _ => b = p + 7) I I' := by
  have h16 := hV.1
  obtain ⟨I1, c1, c2⟩ := ct_firstRule (γ := γ) (l := l) (J := J) (vr := vr) hA hV hC hs hvr
  have hC1 : PrC I1 p Rs := hC.loc (fun b j q1 q2 => c2 b j (by simp; omega))
  have hvr1 : ∀ i, i < 5 → I1 (p + 6) i = vr i := fun i hi => (c2 _ _ (by simp)).trans (hvr i hi)
  have key : s_X3_worthOfFirst_0 γ l p (nI srt) wo (sh, I, J, R) (fun hf v => ∃ I', hf = (sh, I', J, R) ∧ v = some (.int (fwJ vr srt wo Rs)) ∧ Sm (fun b _ => b = p + 7) I I') := by
    refine w_X3_worthOfFirst_0 hA ⟨I1, _, c1, fun z => ⟨I1, rfl, ?_, c2⟩, fun z => ?_⟩
    · unfold fwJ; rw [if_pos z]
    · rcases frJ_or (vr := vr) (srt := srt) (Rs := Rs) Rs.length 0 with q | ⟨r, _, q2, q3⟩
      · exact absurd q z
      · have e : firJ vr srt Rs = nI r := q3
        obtain ⟨I2, d1, d2⟩ := ct_worth (γ := γ) (l := l) (J := J) (vr := vr) (r := r) hA hV hC1 hvr1 (by omega)
        rw [e]
        refine ⟨I2, _, d1, I2, rfl, ?_, c2.tr d2⟩
        unfold fwJ
        rw [if_neg z, e, nI_clamp (by omega)]
  obtain ⟨I', h1, h2⟩ := rW_ex key
  exact ⟨I', e_X3_worthOfFirst h1, h2⟩
def vr5 (x1 x2 x3 x4 x5 : Int32) (i : Nat) : Int32 := if i = 0 then x1 else if i = 1 then x2 else if i = 2 then x3 else if i = 3 then x4 else x5
def vsI (I : Nat → Nat → Int32) (c : Nat) (x1 x2 x3 x4 x5 : Int32) : Nat → Nat → Int32 := up (up (up (up (up I c 0 x1) c 1 x2) c 2 x3) c 3 x4) c 4 x5
theorem vsI_at {c : Nat} {x1 x2 x3 x4 x5 : Int32} : ∀ i, i < 5 → vsI I c x1 x2 x3 x4 x5 c i = vr5 x1 x2 x3 x4 x5 i := by
  intro i hi
  have h : i = 0 ∨ i = 1 ∨ i = 2 ∨ i = 3 ∨ i = 4 := by omega
  rcases h with rfl | rfl | rfl | rfl | rfl <;> simp [vsI, vr5, up_at]
theorem vsI_sm {c : Nat} {x1 x2 x3 x4 x5 : Int32} : Sm (fun b _ => b = c) I (vsI I c x1 x2 x3 x4 x5) := by
  intro b j q
  simp only [vsI, up_at]
  rw [if_neg (fun z => q z.1), if_neg (fun z => q z.1), if_neg (fun z => q z.1), if_neg (fun z => q z.1), if_neg (fun z => q z.1)]
theorem ct_setVars {x1 x2 x3 x4 x5 : Int32} (hA : At3 sh R p) : rMet γ l m_X3_setVars [.ref p, .int x1, .int x2, .int x3, .int x4, .int x5] (sh, I, J, R) (sh, vsI I (p + 6) x1 x2 x3 x4 x5, J, R) none :=
  e_X3_setVars (rW_pure (w_X3_setVars_0 hA ⟨pk_in 0 5 (by decide), pk_in 1 5 (by decide), pk_in 2 5 (by decide), pk_in 3 5 (by decide), pk_in 4 5 (by decide), rfl, rfl⟩))
end PRC
