/-! ===== the way: tales of least cost; the class ===== -/
theorem rW_exJ {γ : rG} {l : Launch} {M : rM} {k n pc : Nat} {L : List (Option Value)} {st : List Value} {h : rHeap} {sh : Nat × (Nat → Nat) × (Nat → Nat)} {R : Nat → Nat → Option Nat} {r : Option Value} {F : (Nat → Nat → Int32) → (Nat → Nat → Int64) → Prop} (t : rW γ l M k n pc L st h (fun hf v => ∃ I' J', hf = (sh, I', J', R) ∧ v = r ∧ F I' J')) : ∃ I' J', rV γ l M k n pc L st h (sh, I', J', R) r ∧ F I' J' := by
  obtain ⟨hf, v, h1, I', J', rfl, rfl, h2⟩ := t
  exact ⟨I', J', h1, h2⟩
def SmJ (c : Nat) (J J' : Nat → Nat → Int64) : Prop := ∀ b j, b ≠ c → J' b j = J b j
theorem SmJ.rf {c : Nat} {J : Nat → Nat → Int64} : SmJ c J J := fun _ _ _ => rfl
theorem SmJ.tr {c : Nat} {J J' J'' : Nat → Nat → Int64} (h : SmJ c J J') (h' : SmJ c J' J'') : SmJ c J J'' := fun b j q => (h' b j q).trans (h b j q)
theorem SmJ.up {c k : Nat} {J J' : Nat → Nat → Int64} {v : Int64} (h : SmJ c J J') : SmJ c J (up J' c k v) := fun b j q => by rw [up_at, if_neg (fun z => q z.1)]; exact h b j q
def othS (s : Nat) : Nat := if s = 1 then 2 else 1
def chC (oc sc : Nat → Nat) (d s x : Nat) : Nat := if x = s then 0 else if x = 1 then oc d else sc d
/-- the least cost of k days more, in a state; on idle days nobody opens -/
def LW (D : Nat) (oc sc : Nat → Nat) (db : Nat → Nat → Nat) (idl : Nat → Bool) : Nat → Nat → Nat
  | 0, _ => 0
  | k + 1, s =>
    if (idl (D - (k + 1)) = true ∧ othS s = 1) ∨ chC oc sc (D - (k + 1)) s s + db (D - (k + 1)) s + LW D oc sc db idl k s < chC oc sc (D - (k + 1)) s (othS s) + db (D - (k + 1)) (othS s) + LW D oc sc db idl k (othS s)
    then chC oc sc (D - (k + 1)) s s + db (D - (k + 1)) s + LW D oc sc db idl k s
    else chC oc sc (D - (k + 1)) s (othS s) + db (D - (k + 1)) (othS s) + LW D oc sc db idl k (othS s)
def MW (D : Nat) (oc sc : Nat → Nat) (db : Nat → Nat → Nat) (idl : Nat → Bool) : Nat → Nat → Int64
  | 0, _ => 1
  | k + 1, s =>
    if (idl (D - (k + 1)) = true ∧ othS s = 1) ∨ chC oc sc (D - (k + 1)) s s + db (D - (k + 1)) s + LW D oc sc db idl k s < chC oc sc (D - (k + 1)) s (othS s) + db (D - (k + 1)) (othS s) + LW D oc sc db idl k (othS s)
    then MW D oc sc db idl k s
    else if chC oc sc (D - (k + 1)) s s + db (D - (k + 1)) s + LW D oc sc db idl k s = chC oc sc (D - (k + 1)) s (othS s) + db (D - (k + 1)) (othS s) + LW D oc sc db idl k (othS s) then MW D oc sc db idl k s + MW D oc sc db idl k (othS s) else MW D oc sc db idl k (othS s)
theorem oth_lt {s : Nat} (hs : s < 3) : othS s < 3 ∧ othS s ≠ s ∧ 1 ≤ othS s := by unfold othS; split <;> omega
/-- bounds of the costs -/
def Bw (D : Nat) (oc sc : Nat → Nat) (db : Nat → Nat → Nat) : Prop := D ≤ 36 ∧ ∀ d, d < D → oc d ≤ 1000 ∧ sc d ≤ 1000 ∧ ∀ s, s < 3 → db d s ≤ 40000
theorem chC_le {D : Nat} {oc sc : Nat → Nat} {db : Nat → Nat → Nat} (hb : Bw D oc sc db) {d s x : Nat} (hd : d < D) : chC oc sc d s x ≤ 1000 := by
  have := hb.2 d hd
  unfold chC; split <;> (try split) <;> omega
theorem LW_le {D : Nat} {oc sc : Nat → Nat} {db : Nat → Nat → Nat} {idl : Nat → Bool} (hb : Bw D oc sc db) : ∀ k, k ≤ D → ∀ s, s < 3 → LW D oc sc db idl k s ≤ 41000 * k := by
  intro k
  induction k with
  | zero => intro _ s _; exact Nat.le_refl 0
  | succ k ih =>
    intro hk s hs
    have h1 := ih (by omega) s hs
    have h2 := ih (by omega) (othS s) (oth_lt hs).1
    have h3 := chC_le hb (d := D - (k + 1)) (s := s) (x := s) (by omega)
    have h4 := chC_le hb (d := D - (k + 1)) (s := s) (x := othS s) (by omega)
    have h5 := (hb.2 (D - (k + 1)) (by omega)).2.2 s hs
    have h6 := (hb.2 (D - (k + 1)) (by omega)).2.2 (othS s) (oth_lt hs).1
    simp only [LW]
    split <;> omega
def CstW (I : Nat → Nat → Int32) (a D : Nat) (oc sc : Nat → Nat) (db : Nat → Nat → Nat) : Prop := I a 1 = nI D ∧ ∀ d, d < D → I (a + 4) d = nI (oc d) ∧ I (a + 5) d = nI (sc d) ∧ ∀ s, s < 3 → I (a + 7) (3 * d + s) = nI (db d s)
theorem CstW.loc {I I' : Nat → Nat → Int32} {a D : Nat} {oc sc : Nat → Nat} {db : Nat → Nat → Nat} (h : CstW I a D oc sc db) (hq : ∀ b j, b = a ∨ b = a + 4 ∨ b = a + 5 ∨ b = a + 7 → I' b j = I b j) : CstW I' a D oc sc db :=
  ⟨(hq _ _ (by omega)).trans h.1, fun d hd => ⟨(hq _ _ (by omega)).trans (h.2 d hd).1, (hq _ _ (by omega)).trans (h.2 d hd).2.1, fun s hs => (hq _ _ (by omega)).trans ((h.2 d hd).2.2 s hs)⟩⟩
/-- the class's rows 'least' and 'many' from day d on -/
def LwC (I : Nat → Nat → Int32) (J : Nat → Nat → Int64) (a D : Nat) (oc sc : Nat → Nat) (db : Nat → Nat → Nat) (idl : Nat → Bool) (d s : Nat) : Prop := I (a + 8) (3 * d + s) = nI (LW D oc sc db idl (D - d) s) ∧ J (a + 9) (3 * d + s) = MW D oc sc db idl (D - d) s
theorem e3 (d s : Nat) : ((3 : Int32) * nI d) + nI s = nI (3 * d + s) := by rw [show (3 : Int32) = nI 3 by decide, pk_mul, nI_add]
/-- what the next state is told to be -/
def nxW (D : Nat) (oc sc : Nat → Nat) (db : Nat → Nat → Nat) (d s : Nat) : Nat :=
  if chC oc sc d s (if othS s < s then othS s else s) + db d (if othS s < s then othS s else s) + LW D oc sc db (fun _ => false) (D - (d + 1)) (if othS s < s then othS s else s) = LW D oc sc db (fun _ => false) (D - d) s then (if othS s < s then othS s else s) else (s + othS s - (if othS s < s then othS s else s))
def stW (D : Nat) (oc sc : Nat → Nat) (db : Nat → Nat → Nat) : Nat → Nat
  | 0 => 0
  | d + 1 => nxW D oc sc db d (stW D oc sc db d)
theorem nx_lt {D : Nat} {oc sc : Nat → Nat} {db : Nat → Nat → Nat} {d s : Nat} (hs : s < 3) : nxW D oc sc db d s < 3 := by
  have := oth_lt hs
  unfold nxW
  split <;> split <;> omega
theorem st_lt {D : Nat} {oc sc : Nat → Nat} {db : Nat → Nat → Nat} : ∀ d, stW D oc sc db d < 3 := by
  intro d
  induction d with
  | zero => exact Nat.zero_lt_succ 2
  | succ d ih => exact nx_lt ih
section TLS
variable {γ : rG} {l : Launch} {sh : Nat × (Nat → Nat) × (Nat → Nat)} {I : Nat → Nat → Int32} {J : Nat → Nat → Int64} {R : Nat → Nat → Option Nat} {a D : Nat} {oc sc : Nat → Nat} {db : Nat → Nat → Nat} {idl : Nat → Bool}
theorem ct_costFrom {d s x : Nat} (hA : At7 sh R a) (hb : Bw D oc sc db) (hC : CstW I a D oc sc db) (hd : d < D) (hs : s < 3) (hx : x = s ∨ x = othS s) (hl : I (a + 8) (3 * (d + 1) + x) = nI (LW D oc sc db idl (D - (d + 1)) x)) : rMet γ l m_X7_costFrom [.ref a, .int (nI d), .int (nI s), .int (nI x)] (sh, I, J, R) (sh, I, J, R) (some (.int (nI (chC oc sc d s x + db d x + LW D oc sc db idl (D - (d + 1)) x)))) := by
  have h36 := hb.1
  have hx3 : x < 3 := by rcases hx with h | h; omega; rw [h]; exact (oth_lt hs).1
  obtain ⟨q1, q2, q3⟩ := hC.2 d hd
  have hv : vp_in (nI d) 36 := vp_in_nI (by omega) (by decide)
  have b30 : ∀ c : Nat, c = chC oc sc d s x → s_X7_costFrom_30 γ l a (nI d) (nI x) (nI c) (sh, I, J, R) (fun hf v => hf = (sh, I, J, R) ∧ v = some (.int (nI (chC oc sc d s x + db d x + LW D oc sc db idl (D - (d + 1)) x)))) := by
    intro c hc
    refine w_X7_costFrom_30 hA ?_
    rw [nI_1, e3, e3, nI_clamp (by omega), nI_clamp (by omega), q3 x hx3, hl, nI_add, nI_add, hc]
    exact ⟨vp_in_nI (by omega) (by decide), vp_in_nI (by omega) (by decide), rfl, rfl⟩
  refine e_X7_costFrom (rW_pure (w_X7_costFrom_0 hA ?_))
  rw [nI_eq (by omega) (by omega), show (1 : Int32) = nI 1 by decide, nI_eq (by omega) (by decide), nI_clamp (by omega), q1, q2]
  refine ⟨fun z => ?_, fun z => ⟨fun y => ⟨hv, w_X7_costFrom_28 hA (b30 _ ?_)⟩, fun y => ⟨hv, w_X7_costFrom_28 hA (b30 _ ?_)⟩⟩⟩
  · have := b30 0 (by unfold chC; rw [if_pos z])
    rw [nI_0] at this
    exact this
  · unfold chC; rw [if_neg z, if_pos y]
  · unfold chC; rw [if_neg z, if_neg y]
theorem oth_I {s : Nat} (hs : s < 3) : (nI s = (1 : Int32) → (2 : Int32) = nI (othS s)) ∧ (¬ nI s = (1 : Int32) → (1 : Int32) = nI (othS s)) := by
  rw [show (1 : Int32) = nI 1 by decide, nI_eq (by omega) (by decide)]
  unfold othS
  constructor
  · intro h; rw [if_pos h]; decide
  · intro h; rw [if_neg h]
theorem ct_weighDay {d s : Nat} {il : Bool} (hA : At7 sh R a) (hb : Bw D oc sc db) (hC : CstW I a D oc sc db) (hd : d < D) (hs : s < 3) (hil : il = idl d) (hl : ∀ x, x < 3 → LwC I J a D oc sc db idl (d + 1) x) : rMet γ l m_X7_weighDay [.ref a, .int (nI d), .int (nI s), .int (nz il)] (sh, I, J, R) (sh, up I (a + 8) (3 * d + s) (nI (LW D oc sc db idl (D - d) s)), up J (a + 9) (3 * d + s) (MW D oc sc db idl (D - d) s), R) none := by
  have h36 := hb.1
  have ho := oth_lt hs
  have hk : D - d = D - (d + 1) + 1 := by omega
  have hdd : D - (D - (d + 1) + 1) = d := by omega
  have c1 := ct_costFrom (γ := γ) (l := l) (J := J) (idl := idl) hA hb hC hd hs (Or.inl rfl) (hl s hs).1
  have c2 := ct_costFrom (γ := γ) (l := l) (J := J) (idl := idl) hA hb hC hd hs (Or.inr rfl) (hl (othS s) ho.1).1
  have j1 := (hl s hs).2
  have j2 := (hl (othS s) ho.1).2
  have lb1 := LW_le (idl := idl) hb (D - (d + 1)) (by omega) s hs
  have lb2 := LW_le (idl := idl) hb (D - (d + 1)) (by omega) (othS s) ho.1
  have cb1 := chC_le hb (d := d) (s := s) (x := s) hd
  have cb2 := chC_le hb (d := d) (s := s) (x := othS s) hd
  have db1 := (hb.2 d hd).2.2 s hs
  have db2 := (hb.2 d hd).2.2 (othS s) ho.1
  have eL : LW D oc sc db idl (D - d) s = if (idl d = true ∧ othS s = 1) ∨ chC oc sc d s s + db d s + LW D oc sc db idl (D - (d + 1)) s < chC oc sc d s (othS s) + db d (othS s) + LW D oc sc db idl (D - (d + 1)) (othS s) then chC oc sc d s s + db d s + LW D oc sc db idl (D - (d + 1)) s else chC oc sc d s (othS s) + db d (othS s) + LW D oc sc db idl (D - (d + 1)) (othS s) := by
    rw [hk]; simp only [LW, hdd]
  have eM : MW D oc sc db idl (D - d) s = if (idl d = true ∧ othS s = 1) ∨ chC oc sc d s s + db d s + LW D oc sc db idl (D - (d + 1)) s < chC oc sc d s (othS s) + db d (othS s) + LW D oc sc db idl (D - (d + 1)) (othS s) then MW D oc sc db idl (D - (d + 1)) s else if chC oc sc d s s + db d s + LW D oc sc db idl (D - (d + 1)) s = chC oc sc d s (othS s) + db d (othS s) + LW D oc sc db idl (D - (d + 1)) (othS s) then MW D oc sc db idl (D - (d + 1)) s + MW D oc sc db idl (D - (d + 1)) (othS s) else MW D oc sc db idl (D - (d + 1)) (othS s) := by
    rw [hk]; simp only [MW, hdd]
  generalize hst : chC oc sc d s s + db d s + LW D oc sc db idl (D - (d + 1)) s = st at *
  generalize hot : chC oc sc d s (othS s) + db d (othS s) + LW D oc sc db idl (D - (d + 1)) (othS s) = ot at *
  have v8 : vp_in (nI (3 * d + s)) 111 := vp_in_nI (by omega) (by decide)
  have k8 : (nI (3 * d + s)).toNatClampNeg = 3 * d + s := nI_clamp (by omega)
  have fin : ∀ (x : Int32) (y : Int64), x = nI (LW D oc sc db idl (D - d) s) → y = MW D oc sc db idl (D - d) s → ((sh, up I (a + 8) (nI (3 * d + s)).toNatClampNeg x, up J (a + 9) (nI (3 * d + s)).toNatClampNeg y, R) = (sh, up I (a + 8) (3 * d + s) (nI (LW D oc sc db idl (D - d) s)), up J (a + 9) (3 * d + s) (MW D oc sc db idl (D - d) s), R) ∧ (none : Option Value) = none) := by
    intro x y hx hy
    rw [k8, hx, hy]
    exact ⟨rfl, rfl⟩
  have b77 : ¬ (idl d = true ∧ othS s = 1) → s_X7_weighDay_77 γ l a (nI st) (MW D oc sc db idl (D - (d + 1)) s) (nI (3 * d + s)) (nI ot) (MW D oc sc db idl (D - (d + 1)) (othS s)) (sh, I, J, R) (fun hf v => hf = (sh, up I (a + 8) (3 * d + s) (nI (LW D oc sc db idl (D - d) s)), up J (a + 9) (3 * d + s) (MW D oc sc db idl (D - d) s), R) ∧ v = none) := by
    intro hn
    refine w_X7_weighDay_77 hA ?_
    rw [nI_leI (by omega) (by omega), nI_eq (by omega) (by omega)]
    refine ⟨fun z => ⟨v8, fun y => ⟨v8, fin _ _ ?_ ?_⟩, fun y => ⟨v8, fin _ _ ?_ ?_⟩⟩, fun z => ⟨v8, v8, fin _ _ ?_ ?_⟩⟩
    · rw [eL, if_neg (fun t => t.elim hn (fun t => by omega))]
    · rw [eM, if_neg (fun t => t.elim hn (fun t => by omega)), if_pos y]
    · rw [eL, if_neg (fun t => t.elim hn (fun t => by omega))]
    · rw [eM, if_neg (fun t => t.elim hn (fun t => by omega)), if_neg y]
    · rw [eL, if_pos (Or.inr (by omega))]
    · rw [eM, if_pos (Or.inr (by omega))]
  have b33 : s_X7_weighDay_33 γ l a (nI d) (nI s) (nz il) (nI st) (MW D oc sc db idl (D - (d + 1)) s) (nI (othS s)) (sh, I, J, R) (fun hf v => hf = (sh, up I (a + 8) (3 * d + s) (nI (LW D oc sc db idl (D - d) s)), up J (a + 9) (3 * d + s) (MW D oc sc db idl (D - d) s), R) ∧ v = none) := by
    refine w_X7_weighDay_33 hA ⟨_, c2, ?_⟩
    rw [nI_1, e3, e3, nI_clamp (show 3 * (d + 1) + othS s < 2 ^ 31 by omega), j2, nz_0, show (1 : Int32) = nI 1 by decide, nI_eq (by omega) (by decide)]
    refine ⟨vp_in_nI (by omega) (by decide), fun z => b77 (fun t => by rw [hil] at z; rw [z] at t; exact absurd t.1 (by decide)), fun z => ⟨fun y => ⟨v8, v8, fin _ _ ?_ ?_⟩, fun y => b77 (fun t => y t.2)⟩⟩
    · have hi : idl d = true := by rw [← hil]; simpa using z
      rw [eL, if_pos (Or.inl ⟨hi, y⟩)]
    · have hi : idl d = true := by rw [← hil]; simpa using z
      rw [eM, if_pos (Or.inl ⟨hi, y⟩)]
  refine e_X7_weighDay (rW_pure (w_X7_weighDay_0 hA ⟨_, c1, ?_⟩))
  have ho2 := oth_I hs
  have v9 : vp_in (nI (3 * (d + 1) + s)) 111 := vp_in_nI (by omega) (by decide)
  rw [nI_1, e3, nI_clamp (show 3 * (d + 1) + s < 2 ^ 31 by omega), j1]
  refine ⟨v9, fun z => ?_, fun z => ?_⟩
  · rw [ho2.1 z]; exact b33
  · rw [ho2.2 z]; exact b33
theorem LwC.loc {I' : Nat → Nat → Int32} {J' : Nat → Nat → Int64} {d s : Nat} (h : LwC I J a D oc sc db idl d s) (h1 : I' (a + 8) (3 * d + s) = I (a + 8) (3 * d + s)) (h2 : J' (a + 9) (3 * d + s) = J (a + 9) (3 * d + s)) : LwC I' J' a D oc sc db idl d s := ⟨h1.trans h.1, h2.trans h.2⟩
theorem ct_weigh7 {x : Int32} (hA : At7 sh R a) (hb : Bw D oc sc db) (hC : CstW I a D oc sc db) (hid : ∀ d, d < D → (I (a + 1) d = x ↔ idl d = true)) :
    ∃ I' J', rMet γ l m_X7_weigh [.ref a, .int x] (sh, I, J, R) (sh, I', J', R) none ∧ (∀ d s, d ≤ D → s < 3 → LwC I' J' a D oc sc db idl d s) ∧ Sm (fun b _ => b = a + 8) I I' ∧ SmJ (a + 9) J J' := by
  have h36 := hb.1
  -- the days, last first
  have lp : ∀ k (I1 : Nat → Nat → Int32) (J1 : Nat → Nat → Int64), k ≤ D → (∀ d s, k ≤ d → d ≤ D → s < 3 → LwC I1 J1 a D oc sc db idl d s) → Sm (fun b _ => b = a + 8) I I1 → SmJ (a + 9) J J1 → s_X7_weigh_48 γ l a x (nI k - 1) (sh, I1, J1, R) (fun hf v => ∃ I' J', hf = (sh, I', J', R) ∧ v = none ∧ ((∀ d s, d ≤ D → s < 3 → LwC I' J' a D oc sc db idl d s) ∧ Sm (fun b _ => b = a + 8) I I' ∧ SmJ (a + 9) J J')) := by
    intro k
    induction k with
    | zero =>
      intro I1 J1 _ hL h1 h2
      exact w_X7_weigh_48 hA ⟨fun _ => ⟨I1, J1, rfl, rfl, fun d s hd hs => hL d s (Nat.zero_le _) hd hs, h1, h2⟩, fun z => absurd (by decide) z⟩
    | succ k ih =>
      intro I1 J1 hk hL h1 h2
      rw [nI_pred]
      have inn : ∀ j s (I2 : Nat → Nat → Int32) (J2 : Nat → Nat → Int64), s + j = 3 → (∀ d t, k + 1 ≤ d → d ≤ D → t < 3 → LwC I2 J2 a D oc sc db idl d t) → (∀ t, t < s → LwC I2 J2 a D oc sc db idl k t) → Sm (fun b _ => b = a + 8) I I2 → SmJ (a + 9) J J2 → s_X7_weigh_54 γ l a x (nI k) (nI s) (sh, I2, J2, R) (fun hf v => ∃ I' J', hf = (sh, I', J', R) ∧ v = none ∧ ((∀ d s, d ≤ D → s < 3 → LwC I' J' a D oc sc db idl d s) ∧ Sm (fun b _ => b = a + 8) I I' ∧ SmJ (a + 9) J J')) := by
        intro j
        induction j with
        | zero =>
          intro s I2 J2 hs3 hL2 hK2 g1 g2
          have e : s = 3 := by omega
          subst e
          refine w_X7_weigh_54 hA ⟨fun _ => ?_, fun z => absurd (by decide) z⟩
          have := ih I2 J2 (by omega) (fun d t hd1 hd2 ht => by
            by_cases e : d = k
            · subst e; exact hK2 t ht
            · exact hL2 d t (by omega) hd2 ht) g1 g2
          rw [Int32.sub_eq_add_neg] at this
          exact this
        | succ j ih2 =>
          intro s I2 J2 hs3 hL2 hK2 g1 g2
          have hC2 : CstW I2 a D oc sc db := hC.loc (fun b j q => g1 b j (by simp; omega))
          have hid2 : I2 (a + 1) k = x ↔ idl k = true := by rw [g1 _ _ (by simp)]; exact hid k (by omega)
          have nx : ∀ il : Bool, il = idl k → rMet γ l m_X7_weighDay [.ref a, .int (nI k), .int (nI s), .int (nz il)] (sh, I2, J2, R) (sh, up I2 (a + 8) (3 * k + s) (nI (LW D oc sc db idl (D - k) s)), up J2 (a + 9) (3 * k + s) (MW D oc sc db idl (D - k) s), R) none := fun il hil => ct_weighDay hA hb hC2 (by omega) (by omega) hil (fun t ht => hL2 (k + 1) t (Nat.le_refl _) (by omega) ht)
          have go : s_X7_weigh_54 γ l a x (nI k) (nI s + 1) (sh, up I2 (a + 8) (3 * k + s) (nI (LW D oc sc db idl (D - k) s)), up J2 (a + 9) (3 * k + s) (MW D oc sc db idl (D - k) s), R) (fun hf v => ∃ I' J', hf = (sh, I', J', R) ∧ v = none ∧ ((∀ d s, d ≤ D → s < 3 → LwC I' J' a D oc sc db idl d s) ∧ Sm (fun b _ => b = a + 8) I I' ∧ SmJ (a + 9) J J')) := by
            rw [nI_1]
            refine ih2 (s + 1) _ _ (by omega) (fun d t q1 q2 q3 => (hL2 d t q1 q2 q3).loc ?_ ?_) (fun t ht => ?_) (g1.up rfl) g2.up
            · rw [up_at, if_neg (by omega)]
            · rw [up_at, if_neg (by omega)]
            · by_cases e : t = s
              · subst e; exact ⟨by rw [up_at, if_pos ⟨rfl, rfl⟩], by rw [up_at, if_pos ⟨rfl, rfl⟩]⟩
              · refine (hK2 t (by omega)).loc ?_ ?_
                · rw [up_at, if_neg (by omega)]
                · rw [up_at, if_neg (by omega)]
          refine w_X7_weigh_54 hA ⟨fun z => absurd z (nI_nlt (show s ≤ 2 by omega) (by decide)), fun _ => ⟨vp_in_nI (by omega) (by decide), ?_⟩⟩
          rw [nI_clamp (by omega), hid2]
          refine ⟨fun z => ⟨_, _, nx true z.symm, go⟩, fun z => ⟨_, _, nx false ?_, go⟩⟩
          cases q : idl k
          · rfl
          · exact absurd q z
      refine w_X7_weigh_48 hA ⟨fun z => absurd z (nI_pos (by omega)), fun _ => ?_⟩
      have := inn 3 0 I1 J1 (by omega) (fun d t q1 q2 q3 => hL d t (by omega) q2 q3) (fun t ht => by omega) h1 h2
      rw [nI_0] at this
      exact this
  -- behind the last day
  have l0 : ∀ j s (I1 : Nat → Nat → Int32) (J1 : Nat → Nat → Int64), s + j = 3 → (∀ t, t < s → LwC I1 J1 a D oc sc db idl D t) → Sm (fun b _ => b = a + 8) I I1 → SmJ (a + 9) J J1 → s_X7_weigh_2 γ l a x (nI s) (sh, I1, J1, R) (fun hf v => ∃ I' J', hf = (sh, I', J', R) ∧ v = none ∧ ((∀ d s, d ≤ D → s < 3 → LwC I' J' a D oc sc db idl d s) ∧ Sm (fun b _ => b = a + 8) I I' ∧ SmJ (a + 9) J J')) := by
    intro j
    induction j with
    | zero =>
      intro s I1 J1 hs hL h1 h2
      have e : s = 3 := by omega
      subst e
      refine w_X7_weigh_2 hA ⟨fun _ => ?_, fun z => absurd (by decide) z⟩
      rw [h1 a 1 (by simp), hC.1]
      exact lp D I1 J1 (Nat.le_refl _) (fun d t q1 q2 q3 => by rw [show d = D by omega]; exact hL t q3) h1 h2
    | succ j ih =>
      intro s I1 J1 hs hL h1 h2
      have e1 : I1 a 1 = nI D := (h1 a 1 (by simp)).trans hC.1
      have v1 : vp_in (nI (3 * D + s)) 111 := vp_in_nI (by omega) (by decide)
      refine w_X7_weigh_2 hA ⟨fun z => absurd z (nI_nlt (show s ≤ 2 by omega) (by decide)), fun _ => ?_⟩
      rw [e1, e3, nI_clamp (by omega), show up I1 (a + 8) (3 * D + s) 0 a 1 = nI D from by rw [up_at, if_neg (by omega)]; exact e1, e3, nI_clamp (by omega), nI_1]
      refine ⟨v1, v1, ih (s + 1) _ _ (by omega) (fun t ht => ?_) (h1.up rfl) h2.up⟩
      by_cases e : t = s
      · subst e
        refine ⟨?_, ?_⟩
        · rw [up_at, if_pos ⟨rfl, rfl⟩, Nat.sub_self]; exact nI_0.symm
        · rw [up_at, if_pos ⟨rfl, rfl⟩, Nat.sub_self]; rfl
      · refine (hL t (by omega)).loc ?_ ?_
        · rw [up_at, if_neg (by omega)]
        · rw [up_at, if_neg (by omega)]
  have l00 := l0 3 0 I J (by omega) (fun t ht => by omega) Sm.rf SmJ.rf
  rw [nI_0] at l00
  obtain ⟨I', J', h1, h2⟩ := rW_exJ (w_X7_weigh_0 hA l00)
  exact ⟨I', J', e_X7_weigh h1, h2⟩
theorem ct_leastCost (hA : At7 sh R a) : rMet γ l m_X7_leastCost [.ref a] (sh, I, J, R) (sh, I, J, R) (some (.int (I (a + 8) 0))) :=
  e_X7_leastCost (rW_pure (w_X7_leastCost_0 hA ⟨pk_in 0 111 (by decide), rfl, rfl⟩))
theorem ct_howMany (hA : At7 sh R a) : rMet γ l m_X7_howMany [.ref a] (sh, I, J, R) (sh, I, J, R) (some (.long (J (a + 9) 0))) :=
  e_X7_howMany (rW_pure (w_X7_howMany_0 hA ⟨pk_in 0 111 (by decide), rfl, rfl⟩))
theorem bz_or0 {p : Prop} : bz p ||| (0 : Int32) = bz p := by
  by_cases h : p
  · rw [bz_t h]; decide
  · rw [bz_f h]; decide
theorem bz_or1 {p : Prop} : bz p ||| (1 : Int32) = 1 := by
  by_cases h : p
  · rw [bz_t h]; decide
  · rw [bz_f h]; decide
/-- the first best tale; whether it is another one than was there -/
theorem ct_tell (hA : At7 sh R a) (hb : Bw D oc sc db) (hC : CstW I a D oc sc db) (hL : ∀ d s, d ≤ D → s < 3 → I (a + 8) (3 * d + s) = nI (LW D oc sc db (fun _ => false) (D - d) s)) :
    ∃ I', rMet γ l m_X7_tell [.ref a] (sh, I, J, R) (sh, I', J, R) (some (.int (bz (∃ d, d < D ∧ ¬ I (a + 10) d = nI (stW D oc sc db (d + 1)))))) ∧ (∀ d, d < D → I' (a + 10) d = nI (stW D oc sc db (d + 1))) ∧ Sm (fun b _ => b = a + 10) I I' := by
  have h36 := hb.1
  have lp : ∀ j k (I1 : Nat → Nat → Int32), k + j = D → (∀ d, d < k → I1 (a + 10) d = nI (stW D oc sc db (d + 1))) → (∀ b j, ¬ (b = a + 10 ∧ j < k) → I1 b j = I b j) → s_X7_tell_6 γ l a (bz (∃ d, d < k ∧ ¬ I (a + 10) d = nI (stW D oc sc db (d + 1)))) (nI (stW D oc sc db k)) (nI k) (sh, I1, J, R) (fun hf v => ∃ I', hf = (sh, I', J, R) ∧ v = some (.int (bz (∃ d, d < D ∧ ¬ I (a + 10) d = nI (stW D oc sc db (d + 1))))) ∧ ((∀ d, d < D → I' (a + 10) d = nI (stW D oc sc db (d + 1))) ∧ Sm (fun b _ => b = a + 10) I I')) := by
    intro j
    induction j with
    | zero =>
      intro k I1 hk h1 h2
      have e : k = D := by omega
      subst e
      refine w_X7_tell_6 hA ⟨fun _ => ⟨bz_b, I1, rfl, rfl, h1, fun b j q => h2 b j (fun z => q z.1)⟩, fun z => absurd ?_ z⟩
      rw [h2 a 1 (by omega), hC.1]; exact nI_le (Nat.le_refl _) (by omega)
    | succ j ih =>
      intro k I1 hk h1 h2
      have hs := st_lt (D := D) (oc := oc) (sc := sc) (db := db) k
      generalize hst : stW D oc sc db k = s at hs
      have ho := oth_lt hs
      have hC1 : CstW I1 a D oc sc db := hC.loc (fun b j q => h2 b j (by omega))
      have hL1 : ∀ d s, d ≤ D → s < 3 → I1 (a + 8) (3 * d + s) = nI (LW D oc sc db (fun _ => false) (D - d) s) := fun d s q1 q2 => (h2 _ _ (by omega)).trans (hL d s q1 q2)
      have hv : vp_in (nI k) 36 := vp_in_nI (by omega) (by decide)
      have hcl : (nI k).toNatClampNeg = k := nI_clamp (by omega)
      have lsb : ∀ t, t < 3 → LW D oc sc db (fun _ => false) (D - k) t ≤ 41000 * 36 := fun t ht => Nat.le_trans (LW_le hb (D - k) (by omega) t ht) (by omega)
      have go : ∀ nx : Nat, nx = stW D oc sc db (k + 1) → s_X7_tell_67 γ l a (bz (∃ d, d < k ∧ ¬ I (a + 10) d = nI (stW D oc sc db (d + 1)))) (nI k) (nI nx) (sh, I1, J, R) (fun hf v => ∃ I', hf = (sh, I', J, R) ∧ v = some (.int (bz (∃ d, d < D ∧ ¬ I (a + 10) d = nI (stW D oc sc db (d + 1))))) ∧ ((∀ d, d < D → I' (a + 10) d = nI (stW D oc sc db (d + 1))) ∧ Sm (fun b _ => b = a + 10) I I')) := by
        intro nx hnx
        have nxt := ih (k + 1) (up I1 (a + 10) k (nI nx)) (by omega) (fun d hd => by
          by_cases e : d = k
          · subst e; rw [up_at, if_pos ⟨rfl, rfl⟩, hnx]
          · rw [up_at, if_neg (by omega)]; exact h1 d (by omega)) (fun b j q => by rw [up_at, if_neg (by omega)]; exact h2 b j (by omega))
        rw [← hnx] at nxt
        refine w_X7_tell_67 hA ⟨hv, ?_⟩
        rw [hcl, h2 (a + 10) k (by omega), bz_or0, bz_or1, nI_1]
        refine ⟨fun z => ⟨hv, ?_⟩, fun z => ⟨hv, ?_⟩⟩
        · have e : bz (∃ d, d < k + 1 ∧ ¬ I (a + 10) d = nI (stW D oc sc db (d + 1))) = bz (∃ d, d < k ∧ ¬ I (a + 10) d = nI (stW D oc sc db (d + 1))) := by
            apply bz_c
            constructor
            · rintro ⟨d, q1, q2⟩
              by_cases e : d = k
              · subst e; rw [← hnx] at q2; exact absurd z q2
              · exact ⟨d, by omega, q2⟩
            · rintro ⟨d, q1, q2⟩; exact ⟨d, by omega, q2⟩
          rw [e] at nxt
          exact nxt
        · have e : bz (∃ d, d < k + 1 ∧ ¬ I (a + 10) d = nI (stW D oc sc db (d + 1))) = 1 := bz_t ⟨k, by omega, by rw [← hnx]; exact z⟩
          rw [e] at nxt
          exact nxt
      have go24 : s_X7_tell_24 γ l a (bz (∃ d, d < k ∧ ¬ I (a + 10) d = nI (stW D oc sc db (d + 1)))) (nI s) (nI k) (nI (othS s)) (sh, I1, J, R) (fun hf v => ∃ I', hf = (sh, I', J, R) ∧ v = some (.int (bz (∃ d, d < D ∧ ¬ I (a + 10) d = nI (stW D oc sc db (d + 1))))) ∧ ((∀ d, d < D → I' (a + 10) d = nI (stW D oc sc db (d + 1))) ∧ Sm (fun b _ => b = a + 10) I I')) := by
        have em : (if nI (othS s) < nI s then nI (othS s) else nI s) = nI (if othS s < s then othS s else s) := by
          by_cases q : othS s < s
          · rw [if_pos q, if_pos (nI_lt q (by omega))]
          · rw [if_neg q, if_neg (nI_nlt (by omega) (by omega))]
        have hx : (if othS s < s then othS s else s) = s ∨ (if othS s < s then othS s else s) = othS s := by split; exact Or.inr rfl; exact Or.inl rfl
        have hx3 : (if othS s < s then othS s else s) < 3 := by split <;> omega
        have cf := ct_costFrom (γ := γ) (l := l) (J := J) (idl := fun _ => false) hA hb hC1 (show k < D by omega) hs hx (hL1 (k + 1) _ (by omega) hx3)
        have en : stW D oc sc db (k + 1) = nxW D oc sc db k s := by simp only [stW, hst]
        have b1 := chC_le hb (d := k) (s := s) (x := if othS s < s then othS s else s) (by omega)
        have b2 := (hb.2 k (by omega)).2.2 _ hx3
        have b3 := LW_le (idl := fun _ => false) hb (D - (k + 1)) (by omega) _ hx3
        have b4 := lsb s hs
        refine w_X7_tell_24 hA ?_
        rw [em]
        refine ⟨_, cf, ?_⟩
        rw [e3, nI_clamp (show 3 * k + s < 2 ^ 31 by omega), hL1 k s (by omega) hs, nI_eq (by omega) (by omega), nI_add, pk_sub (by split <;> omega)]
        refine ⟨vp_in_nI (by omega) (by decide), fun z => go _ ?_, fun z => go _ ?_⟩
        · rw [en]; unfold nxW; rw [if_pos z]
        · rw [en]; unfold nxW; rw [if_neg z]
      have ho2 := oth_I hs
      refine w_X7_tell_6 hA ⟨fun z => absurd z ?_, fun _ => ⟨fun z => ?_, fun z => ?_⟩⟩
      · rw [hC1.1]; exact nI_ge (by omega) (by omega)
      · rw [ho2.1 z]; exact go24
      · rw [ho2.2 z]; exact go24
  have l0 := lp D 0 I (by omega) (fun d hd => by omega) (fun _ _ _ => rfl)
  rw [bz_f (by rintro ⟨d, hd, _⟩; omega)] at l0
  obtain ⟨I', h1, h2⟩ := rW_ex (w_X7_tell_0 hA l0)
  exact ⟨I', e_X7_tell h1, h2⟩
end TLS
