/-! ===== what holds of the reader between tokens ===== -/
def dpK (m : Nat) : List Itm → Nat → Nat → Prop
  | [], d, e => d = e
  | t :: L, d, e => (t.1 < 2 ∧ d < m ∧ dpK m L (d + 1) e) ∨ (2 ≤ t.1 ∧ 2 ≤ d ∧ dpK m L (d - 1) e)
theorem dpK_32 : ∀ (L : List Itm) (d e : Nat), dpK 32 L d e → depJ L d e := by
  intro L
  induction L with
  | nil => intro d e h; exact h
  | cons t L ih =>
    intro d e h
    rcases h with ⟨h1, h2, h3⟩ | ⟨h1, h2, h3⟩
    · exact Or.inl ⟨h1, h2, ih _ _ h3⟩
    · exact Or.inr ⟨h1, h2, ih _ _ h3⟩
theorem dpK_app {m : Nat} {M : List Itm} {x e : Nat} (hM : dpK m M x e) : ∀ (L : List Itm) (d : Nat), dpK m L d x → dpK m (L ++ M) d e := by
  intro L
  induction L with
  | nil => intro d h; have h : d = x := h; subst h; exact hM
  | cons t L ih =>
    intro d h
    rcases h with ⟨h1, h2, h3⟩ | ⟨h1, h2, h3⟩
    · exact Or.inl ⟨h1, h2, ih _ h3⟩
    · exact Or.inr ⟨h1, h2, ih _ h3⟩
theorem dpK_shift {m c M : Nat} (hm : m + c ≤ M) : ∀ (L : List Itm) (d e : Nat), dpK m L d e → dpK M L (d + c) (e + c) := by
  intro L
  induction L with
  | nil => intro d e h; have h : d = e := h; subst h; exact rfl
  | cons t L ih =>
    intro d e h
    rcases h with ⟨h1, h2, h3⟩ | ⟨h1, h2, h3⟩
    · refine Or.inl ⟨h1, by omega, ?_⟩
      have := ih _ _ h3
      rw [show d + 1 + c = d + c + 1 by omega] at this
      exact this
    · refine Or.inr ⟨h1, by omega, ?_⟩
      have := ih _ _ h3
      rw [show d - 1 + c = d + c - 1 by omega] at this
      exact this
def nB (L : List Nat) : Nat := (L.filter isB).length
theorem itm_B {s : Nat} (h : isB s = true) : 2 ≤ (itm s).1 := by
  have h : 15 ≤ s := of_decide_eq_true h
  unfold itm
  repeat' split
  all_goals first | decide | (show 2 ≤ s - 6; omega)
theorem dpK_ops {m : Nat} : ∀ (A : List Nat) (d : Nat), (∀ x ∈ A, isB x = true) → 1 ≤ d → dpK m (A.map itm) (d + A.length) d := by
  intro A
  induction A with
  | nil => intro d _ _; exact rfl
  | cons x A ih =>
    intro d h hd
    refine Or.inr ⟨itm_B (h x (by simp)), by simp; omega, ?_⟩
    have := ih d (fun y hy => h y (by simp [hy])) hd
    rw [show d + (x :: A).length - 1 = d + A.length from by rw [List.length_cons]; omega]
    exact this
theorem nB_split (p : Nat → Bool) (hp : ∀ x, p x = true → isB x = true) : ∀ (L : List Nat), nB L = (L.takeWhile p).length + nB (L.dropWhile p) := by
  intro L
  induction L with
  | nil => rfl
  | cons x r ih =>
    by_cases h : p x = true
    · have e1 : (x :: r).takeWhile p = x :: r.takeWhile p := by simp [List.takeWhile, h]
      have e2 : (x :: r).dropWhile p = r.dropWhile p := by simp [List.dropWhile, h]
      have e3 : nB (x :: r) = nB r + 1 := by simp [nB, List.filter, hp x h]
      rw [e1, e2, e3, ih]
      simp only [List.length_cons]
      omega
    · have h' : p x = false := by simpa using h
      have e1 : (x :: r).takeWhile p = [] := by simp [List.takeWhile, h']
      have e2 : (x :: r).dropWhile p = x :: r := by simp [List.dropWhile, h']
      rw [e1, e2]
      simp
theorem tw_all (p : Nat → Bool) (hp : ∀ x, p x = true → isB x = true) : ∀ (L : List Nat), ∀ x ∈ L.takeWhile p, isB x = true := by
  intro L
  induction L with
  | nil => intro x hx; simp at hx
  | cons y r ih =>
    intro x hx
    by_cases h : p y = true
    · simp [List.takeWhile, h] at hx
      rcases hx with e | e
      · rw [e]; exact hp y h
      · exact ih x e
    · have h' : p y = false := by simpa using h
      simp [List.takeWhile, h'] at hx
theorem tw_len (p : Nat → Bool) (L : List Nat) : (L.takeWhile p).length + (L.dropWhile p).length = L.length := by
  have := congrArg List.length (List.takeWhile_append_dropWhile (p := p) (l := L))
  simp only [List.length_append] at this
  exact this
theorem isT_B {x : Nat} (h : isT x = true) : isB x = true := by
  have h : x = 17 := of_decide_eq_true h
  subst h; rfl
theorem nB_le (L : List Nat) : nB L ≤ L.length := List.length_filter_le _ _
def wfK (E : List Itm) : Prop := (∀ t ∈ E, okJ t ∧ t.1 < 5) ∧ dpK 22 E 0 1
theorem wfK.e {E : List Itm} (h : wfK E) : wfE E := ⟨h.1, dpK_32 _ _ _ (dpK_shift (c := 0) (by decide) _ _ _ h.2)⟩
def V_relK (r : Rl) : Prop := r.2.1 < 4 ∧ wfK r.2.2.1 ∧ wfK r.2.2.2
theorem V_relK.e {r : Rl} (h : V_relK r) : V_rel r := ⟨h.1, h.2.1.e, h.2.2.e⟩
theorem rel_dep {r : Rl} (h : V_relK r) {c : Nat} (hc : c ≤ 2) : dpK 32 (relJ r) c (c + 1) := by
  have h1 := dpK_shift (c := c) (M := 32) (by omega) _ _ _ h.2.1.2
  have h2 := dpK_shift (c := c + 1) (M := 32) (by omega) _ _ _ h.2.2.2
  rw [Nat.zero_add, Nat.add_comm] at h1
  rw [Nat.zero_add, show 1 + (c + 1) = c + 2 by omega] at h2
  have h3 : dpK 32 [(5 + r.2.1, 0)] (c + 2) (c + 1) := Or.inr ⟨by show 2 ≤ 5 + r.2.1; omega, by omega, rfl⟩
  exact dpK_app (dpK_app h3 _ _ h2) _ _ h1
theorem cndJ_dep : ∀ (t : List Rl) (po : Bool), (∀ r ∈ t, V_relK r) → dpK 32 (cndJ po t) (if po then 2 else 1) 1 := by
  intro t
  induction t with
  | nil =>
    intro po _
    cases po
    · exact rfl
    · exact Or.inr ⟨by decide, by decide, rfl⟩
  | cons r t ih =>
    intro po h
    have hr := h r (by simp)
    have ht : ∀ x ∈ t, V_relK x := fun x hx => h x (by simp [hx])
    unfold cndJ
    by_cases q : r.1 = true
    · rw [if_pos q]
      have h2 := ih true ht
      rw [if_pos rfl] at h2
      have h3 := dpK_app h2 _ _ (rel_dep hr (c := 1) (by decide))
      cases po
      · exact h3
      · exact dpK_app h3 [(10, 0)] 2 (Or.inr ⟨by decide, by decide, rfl⟩)
    · rw [if_neg q]
      have h2 := ih po ht
      cases po
      · exact dpK_app (dpK_app h2 [(9, 0)] 2 (Or.inr ⟨by decide, by decide, rfl⟩)) _ _ (rel_dep hr (c := 1) (by decide))
      · exact dpK_app (dpK_app h2 [(9, 0)] 3 (Or.inr ⟨by decide, by decide, rfl⟩)) _ _ (rel_dep hr (c := 2) (by decide))
theorem cndT_dep {L : List Rl} (hL : L ≠ []) (h : ∀ r ∈ L, V_relK r) : depJ (cndT L) 0 1 := by
  cases L with
  | nil => exact absurd rfl hL
  | cons r t =>
    exact dpK_32 _ _ _ (dpK_app (cndJ_dep t false (fun x hx => h x (by simp [hx]))) _ _ (rel_dep (h r (by simp)) (c := 0) (by decide)))
/-! what the class has let come out -/
def codes : List Rul → List Itm
  | [] => []
  | u :: t => (u.2.1 ++ cndT u.2.2) ++ codes t
theorem codes_snoc (u : Rul) : ∀ (t : List Rul), codes (t ++ [u]) = codes t ++ (u.2.1 ++ cndT u.2.2) := by
  intro t
  induction t with
  | nil => simp [codes]
  | cons v t ih => simp [codes, ih]
def Wq (q : Ps) : List Nat := qo q ++ ((if qs q = 2 then [11 + qk q] else []) ++ (if qs q = 0 then [] else pwA (qr q) (qf q)))
def curC (q : Ps) : List Itm := if qs q = 0 then qx q else qe q ++ (emA (qr q) (qf q) ++ ((if qs q = 2 then ql q else []) ++ qx q))
def clsC (q : Ps) : List Itm := codes (qn q) ++ curC q
/-- between tokens, k of them taken -/
def V_ps (q : Ps) (k : Nat) : Prop :=
  (qw q ≤ 2 ∧ qs q ≤ 2 ∧ (qw q = 0 → q = ((0, 0, 0), ([], []), qn q, (0, [], []), (true, 0, []))) ∧ (qw q ≠ 0 → (qn q).length < 16)) ∧
  (okO (qo q) (qd q) ∧ qd q ≤ 6 ∧ (∀ t ∈ qx q, okJ t ∧ t.1 < 5) ∧ dpK 22 (qx q) 0 (nB (qo q) + (if qw q = 2 then 1 else 0))) ∧
  (qc q < 6 ∧ (qs q ≠ 0 → wfK (qe q)) ∧ (∀ r ∈ qr q, V_relK r) ∧ (qs q = 2 → wfK (ql q) ∧ qk q < 4) ∧ (∀ r t, qr q = r :: t → r.1 = true) ∧ (qr q = [] → qf q = true)) ∧
  V_prc (qn q) ∧ (Wq q).length + (clsC q).length ≤ k
theorem V_p0 : V_ps p0 0 := by
  refine ⟨⟨by decide, by decide, fun _ => rfl, fun h => absurd rfl h⟩, ⟨rfl, by decide, fun t h => absurd (show t ∈ ([] : List Itm) from h) (by simp), rfl⟩, ⟨by decide, fun h => absurd rfl h, fun r h => absurd (show r ∈ ([] : List Rl) from h) (by simp), fun h => absurd h (by decide), fun r t h => absurd (show ([] : List Rl) = r :: t from h) (by simp), fun _ => rfl⟩, ⟨by decide, fun r h => absurd (show r < 0 from h) (by omega)⟩, by decide⟩
theorem V_ps.ln {q : Ps} {k : Nat} (h : V_ps q k) : (qo q).length ≤ 20 ∧ (Wq q).length ≤ 23 := by
  have h1 := okO_len _ _ h.2.1.1
  have h2 := h.2.1.2.1
  have hb : blO (qo q) ≤ 2 := by
    cases qo q with
    | nil => simp [blO]
    | cons y t => simp only [blO]; split <;> (try split) <;> omega
  have h3 := pwA_len (qr q) (qf q)
  refine ⟨by omega, ?_⟩
  unfold Wq
  simp only [List.length_append]
  have e1 : (if qs q = 2 then [11 + qk q] else []).length ≤ 1 := by split <;> simp
  have e2 : (if qs q = 0 then [] else pwA (qr q) (qf q)).length ≤ 2 := by
    split
    · exact Nat.zero_le _
    · exact h3
  omega
/-- with no parenthesis open, all that waits in the expression binds -/
theorem okO_0 {L : List Nat} (h : okO L 0) : ∀ x ∈ L, isB x = true := by
  induction L with
  | nil => intro x hx; simp at hx
  | cons y r ih =>
    intro x hx
    rcases h with ⟨h1, h2, h3⟩ | ⟨h1, h2, h3⟩ | ⟨h1, h2, h3⟩
    · omega
    · rcases List.mem_cons.mp hx with e | e
      · rw [e]; unfold isB; exact decide_eq_true (by omega)
      · exact ih h3 x e
    · rcases List.mem_cons.mp hx with e | e
      · rw [e]; unfold isB; exact decide_eq_true (by omega)
      · exact ih h3 x e
theorem itm_ok {s : Nat} (h : s = 15 ∨ s = 16 ∨ s = 17) : okJ (itm s) ∧ (itm s).1 < 5 := by
  rcases h with h | h | h <;> subst h <;> exact ⟨Or.inr (Or.inr ⟨by decide, by decide⟩), by decide⟩
theorem V_ps.fl {q : Ps} {k : Nat} (h : V_ps q k) (h2 : qw q = 2) (hd : qd q = 0) : wfK (fl q) := by
  obtain ⟨_, ⟨o1, o2, o3, o4⟩, _⟩ := h
  rw [hd] at o1
  have hB := okO_0 o1
  have hC := okO_cases o1
  refine ⟨fun t ht => ?_, ?_⟩
  · rcases List.mem_append.mp ht with e | e
    · exact o3 t e
    · obtain ⟨x, hx, rfl⟩ := List.mem_map.mp e
      have b1 : 15 ≤ x := of_decide_eq_true (hB x hx)
      have b2 := hC x hx
      exact itm_ok (by omega)
  · rw [if_pos h2] at o4
    have e : nB (qo q) = (qo q).length := by
      unfold nB
      rw [List.filter_eq_self.mpr hB]
    rw [e, Nat.add_comm] at o4
    exact dpK_app (dpK_ops (qo q) 1 hB (Nat.le_refl _)) _ _ o4
