/-! ===== the way: the model ===== -/
def alw (s x : Nat) : Prop := x = s ∨ x = othS s
def chF (oc sc : Nat → Nat) (d s x : Nat) : Nat := if x = s ∨ x = othS s then chC oc sc d s x else 100000000
/-- the cost of telling x next, of state s, and what follows -/
def csW (D : Nat) (oc sc : Nat → Nat) (db : Nat → Nat → Nat) (d s x : Nat) : Nat := chC oc sc d s x + db d x + LW D oc sc db (fun _ => false) (D - (d + 1)) x
def bsW (cs : Nat → Nat) (f : Nat) : Nat → Nat
  | 0 => 100000000
  | x + 1 => if (x = f ∨ x = othS f) ∧ cs x < bsW cs f x then cs x else bsW cs f x
theorem bsW_3 {cs : Nat → Nat} {f : Nat} (hf : f < 3) (h1 : cs f < 100000000) (h2 : cs (othS f) < 100000000) : bsW cs f 3 = if cs f < cs (othS f) then cs f else cs (othS f) := by
  have h : f = 0 ∨ f = 1 ∨ f = 2 := by omega
  rcases h with rfl | rfl | rfl
  · simp only [othS, Nat.zero_ne_one, if_false] at h2 ⊢
    simp [bsW, othS, h1]
    by_cases q : cs 1 < cs 0
    · rw [if_pos q, if_neg (by omega)]
    · rw [if_neg q]
      by_cases q2 : cs 0 < cs 1
      · rw [if_pos q2]
      · rw [if_neg q2]; omega
  · simp only [othS, if_true] at h2 ⊢
    simp [bsW, othS, h1]
    by_cases q : cs 2 < cs 1
    · rw [if_pos q, if_neg (by omega)]
    · rw [if_neg q]
      by_cases q2 : cs 1 < cs 2
      · rw [if_pos q2]
      · rw [if_neg q2]; omega
  · simp [othS] at h2 ⊢
    simp [bsW, othS, h2]
theorem LW_min {D : Nat} {oc sc : Nat → Nat} {db : Nat → Nat → Nat} {d s : Nat} (hd : d < D) : LW D oc sc db (fun _ => false) (D - d) s = if csW D oc sc db d s s < csW D oc sc db d s (othS s) then csW D oc sc db d s s else csW D oc sc db d s (othS s) := by
  have hk : D - d = D - (d + 1) + 1 := by omega
  have hdd : D - (D - (d + 1) + 1) = d := by omega
  rw [hk]
  simp only [LW, hdd]
  by_cases q : chC oc sc d s s + db d s + LW D oc sc db (fun _ => false) (D - (d + 1)) s < chC oc sc d s (othS s) + db d (othS s) + LW D oc sc db (fun _ => false) (D - (d + 1)) (othS s)
  · have q2 : csW D oc sc db d s s < csW D oc sc db d s (othS s) := q
    rw [if_pos (Or.inr q), if_pos q2]; rfl
  · have q2 : ¬ csW D oc sc db d s s < csW D oc sc db d s (othS s) := q
    rw [if_neg (fun t => t.elim (fun t => Bool.false_ne_true t.1) q), if_neg q2]; rfl
theorem csW_le {D : Nat} {oc sc : Nat → Nat} {db : Nat → Nat → Nat} {d s x : Nat} (hb : Bw D oc sc db) (hd : d < D) (hx : x < 3) : csW D oc sc db d s x ≤ 41000 * 36 := by
  have h1 := chC_le hb (d := d) (s := s) (x := x) hd
  have h2 := (hb.2 d hd).2.2 x hx
  have h3 := LW_le (idl := fun _ => false) hb (D - (d + 1)) (by omega) x hx
  have := hb.1
  unfold csW
  omega
/-- the count of best ways, as the model adds them up -/
def onJ (al : Nat → Prop) (w : Nat → Int64) [DecidablePred al] : Nat → Int64
  | 0 => 0
  | x + 1 => if al x then onJ al w x + w x else onJ al w x
def onA (D : Nat) (oc sc : Nat → Nat) (db : Nat → Nat → Nat) (idl : Nat → Bool) (d s x : Nat) : Prop := (x = s ∨ x = othS s) ∧ csW D oc sc db d s x = LW D oc sc db (fun _ => false) (D - d) s ∧ ¬ (x = 1 ∧ ¬ s = 1 ∧ idl d = true)
noncomputable def onN (D : Nat) (oc sc : Nat → Nat) (db : Nat → Nat → Nat) (idl : Nat → Bool) (d s : Nat) (w : Nat → Int64) (k : Nat) : Int64 := @onJ (onA D oc sc db idl d s) w (fun _ => Classical.propDecidable _) k
noncomputable def MO (D : Nat) (oc sc : Nat → Nat) (db : Nat → Nat → Nat) (idl : Nat → Bool) : Nat → Nat → Int64
  | 0, _ => 1
  | k + 1, s => onN D oc sc db idl (D - (k + 1)) s (MO D oc sc db idl k) 3
theorem onN_s {D : Nat} {oc sc : Nat → Nat} {db : Nat → Nat → Nat} {idl : Nat → Bool} {d s x : Nat} {w : Nat → Int64} : (onA D oc sc db idl d s x → onN D oc sc db idl d s w (x + 1) = onN D oc sc db idl d s w x + w x) ∧ (¬ onA D oc sc db idl d s x → onN D oc sc db idl d s w (x + 1) = onN D oc sc db idl d s w x) := by
  constructor
  · intro h; unfold onN; simp only [onJ]; rw [if_pos h]
  · intro h; unfold onN; simp only [onJ]; rw [if_neg h]
theorem onN_3 {D : Nat} {oc sc : Nat → Nat} {db : Nat → Nat → Nat} {idl : Nat → Bool} {d s : Nat} {w : Nat → Int64} (hs : s < 3) : onN D oc sc db idl d s w 3 = (@ite _ (onA D oc sc db idl d s s) (Classical.propDecidable _) (w s) 0) + (@ite _ (onA D oc sc db idl d s (othS s)) (Classical.propDecidable _) (w (othS s)) 0) := by
  have no : ∀ x, ¬ (x = s ∨ x = othS s) → ¬ onA D oc sc db idl d s x := fun x h t => h t.1
  have z : onN D oc sc db idl d s w 0 = 0 := rfl
  have st : ∀ x, onN D oc sc db idl d s w (x + 1) = onN D oc sc db idl d s w x + (@ite _ (onA D oc sc db idl d s x) (Classical.propDecidable _) (w x) 0) := by
    intro x
    by_cases q : onA D oc sc db idl d s x
    · rw [onN_s.1 q, if_pos q]
    · rw [onN_s.2 q, if_neg q, Int64.add_zero]
  have h : s = 0 ∨ s = 1 ∨ s = 2 := by omega
  rw [st 2, st 1, st 0, z, Int64.zero_add]
  rcases h with rfl | rfl | rfl
  · rw [show othS 0 = 1 from rfl, if_neg (no 2 (by decide)), Int64.add_zero]
  · rw [show othS 1 = 2 from rfl, if_neg (no 0 (by decide)), Int64.zero_add]
  · rw [show othS 2 = 1 from rfl, if_neg (no 0 (by decide)), Int64.zero_add, Int64.add_comm]
theorem LW_ge {D : Nat} {oc sc : Nat → Nat} {db : Nat → Nat → Nat} {idl : Nat → Bool} : ∀ k s, LW D oc sc db (fun _ => false) k s ≤ LW D oc sc db idl k s := by
  intro k
  induction k with
  | zero => intro s; exact Nat.le_refl _
  | succ k ih =>
    intro s
    have h1 := ih s
    have h2 := ih (othS s)
    simp only [LW]
    split <;> split <;> rename_i r1 r2
    · omega
    · rcases r1 with r1 | r1
      · exact absurd r1.1 Bool.false_ne_true
      · rcases Nat.lt_or_ge (chC oc sc (D - (k + 1)) s s + db (D - (k + 1)) s + LW D oc sc db idl k s) (chC oc sc (D - (k + 1)) s (othS s) + db (D - (k + 1)) (othS s) + LW D oc sc db idl k (othS s)) with q | q
        · exact absurd (Or.inr q) r2
        · omega
    · have r1' : ¬ chC oc sc (D - (k + 1)) s s + db (D - (k + 1)) s + LW D oc sc db (fun _ => false) k s < chC oc sc (D - (k + 1)) s (othS s) + db (D - (k + 1)) (othS s) + LW D oc sc db (fun _ => false) k (othS s) := fun t => r1 (Or.inr t)
      omega
    · omega
theorem MO_eq {D : Nat} {oc sc : Nat → Nat} {db : Nat → Nat → Nat} {idl : Nat → Bool} : ∀ k, k ≤ D → ∀ s, s < 3 → MO D oc sc db idl k s = if LW D oc sc db idl k s = LW D oc sc db (fun _ => false) k s then MW D oc sc db idl k s else 0 := by
  intro k
  induction k with
  | zero => intro _ s _; simp only [MO, LW, MW, if_true]
  | succ k ih =>
    intro hk s hs
    have ho := oth_lt hs
    have i1 := ih (by omega) s hs
    have i2 := ih (by omega) (othS s) ho.1
    have g1 := LW_ge (D := D) (oc := oc) (sc := sc) (db := db) (idl := idl) k s
    have g2 := LW_ge (D := D) (oc := oc) (sc := sc) (db := db) (idl := idl) k (othS s)
    have hd : D - (k + 1) < D := by omega
    have hL := LW_min (D := D) (oc := oc) (sc := sc) (db := db) (s := s) hd
    have hk2 : D - (D - (k + 1)) = k + 1 := by omega
    have hk3 : D - (D - (k + 1) + 1) = k := by omega
    have ec : ∀ x, csW D oc sc db (D - (k + 1)) s x = chC oc sc (D - (k + 1)) s x + db (D - (k + 1)) x + LW D oc sc db (fun _ => false) k x := fun x => by unfold csW; rw [hk3]
    rw [hk2] at hL
    simp only [MO]
    rw [onN_3 hs, i1, i2]
    have a1 : onA D oc sc db idl (D - (k + 1)) s s ↔ csW D oc sc db (D - (k + 1)) s s = LW D oc sc db (fun _ => false) (k + 1) s := by
      unfold onA
      rw [hk2]
      exact ⟨fun t => t.2.1, fun t => ⟨Or.inl rfl, t, fun u => u.2.1 u.1⟩⟩
    have a2 : onA D oc sc db idl (D - (k + 1)) s (othS s) ↔ (csW D oc sc db (D - (k + 1)) s (othS s) = LW D oc sc db (fun _ => false) (k + 1) s ∧ ¬ (idl (D - (k + 1)) = true ∧ othS s = 1)) := by
      unfold onA
      rw [hk2]
      refine ⟨fun t => ⟨t.2.1, fun u => t.2.2 ⟨u.2, by omega, u.1⟩⟩, fun t => ⟨Or.inr rfl, t.1, fun u => t.2 ⟨u.2.2, u.1⟩⟩⟩
    have hLh : LW D oc sc db idl (k + 1) s = if (idl (D - (k + 1)) = true ∧ othS s = 1) ∨ chC oc sc (D - (k + 1)) s s + db (D - (k + 1)) s + LW D oc sc db idl k s < chC oc sc (D - (k + 1)) s (othS s) + db (D - (k + 1)) (othS s) + LW D oc sc db idl k (othS s) then chC oc sc (D - (k + 1)) s s + db (D - (k + 1)) s + LW D oc sc db idl k s else chC oc sc (D - (k + 1)) s (othS s) + db (D - (k + 1)) (othS s) + LW D oc sc db idl k (othS s) := by simp only [LW]
    have hMh : MW D oc sc db idl (k + 1) s = if (idl (D - (k + 1)) = true ∧ othS s = 1) ∨ chC oc sc (D - (k + 1)) s s + db (D - (k + 1)) s + LW D oc sc db idl k s < chC oc sc (D - (k + 1)) s (othS s) + db (D - (k + 1)) (othS s) + LW D oc sc db idl k (othS s) then MW D oc sc db idl k s else if chC oc sc (D - (k + 1)) s s + db (D - (k + 1)) s + LW D oc sc db idl k s = chC oc sc (D - (k + 1)) s (othS s) + db (D - (k + 1)) (othS s) + LW D oc sc db idl k (othS s) then MW D oc sc db idl k s + MW D oc sc db idl k (othS s) else MW D oc sc db idl k (othS s) := by simp only [MW]
    have e1 := ec s
    have e2 := ec (othS s)
    generalize csW D oc sc db (D - (k + 1)) s s = c1 at *
    generalize csW D oc sc db (D - (k + 1)) s (othS s) = c2 at *
    generalize LW D oc sc db (fun _ => false) (k + 1) s = L0 at *
    generalize LW D oc sc db idl (k + 1) s = Lh at *
    generalize MW D oc sc db idl (k + 1) s = Mh at *
    generalize LW D oc sc db idl k s = l1 at *
    generalize LW D oc sc db idl k (othS s) = l2 at *
    generalize LW D oc sc db (fun _ => false) k s = z1 at *
    generalize LW D oc sc db (fun _ => false) k (othS s) = z2 at *
    generalize chC oc sc (D - (k + 1)) s s + db (D - (k + 1)) s = u1 at *
    generalize chC oc sc (D - (k + 1)) s (othS s) + db (D - (k + 1)) (othS s) = u2 at *
    generalize MW D oc sc db idl k s = m1 at *
    generalize MW D oc sc db idl k (othS s) = m2 at *
    have hL' : L0 ≤ c1 ∧ L0 ≤ c2 ∧ (L0 = c1 ∨ L0 = c2) := by split at hL <;> omega
    by_cases hbl : idl (D - (k + 1)) = true ∧ othS s = 1
    · rw [if_neg (fun t => (a2.mp t).2 hbl), Int64.add_zero]
      rw [if_pos (Or.inl hbl)] at hLh hMh
      by_cases q : l1 = z1
      · rw [if_pos q]
        by_cases q2 : c1 = L0
        · rw [if_pos (a1.mpr q2), if_pos (by omega), hMh]
        · rw [if_neg (fun t => q2 (a1.mp t)), if_neg (by omega)]
      · rw [if_neg q, if_neg (show ¬ Lh = L0 by omega)]
        split <;> rfl
    · by_cases q1 : c1 = L0
      · rw [if_pos (a1.mpr q1)]
        by_cases q2 : c2 = L0
        · rw [if_pos (a2.mpr ⟨q2, hbl⟩)]
          by_cases r1 : l1 = z1 <;> by_cases r2 : l2 = z2
          · rw [if_pos r1, if_pos r2]
            rw [if_neg (fun t => t.elim hbl (fun t => by omega))] at hLh hMh
            rw [if_pos (show u1 + l1 = u2 + l2 by omega)] at hMh
            rw [if_pos (by omega), hMh]
          · rw [if_pos r1, if_neg r2, Int64.add_zero]
            rw [if_pos (Or.inr (by omega))] at hLh hMh
            rw [if_pos (by omega), hMh]
          · rw [if_neg r1, if_pos r2, Int64.zero_add]
            rw [if_neg (fun t => t.elim hbl (fun t => by omega))] at hLh hMh
            rw [if_neg (show ¬ u1 + l1 = u2 + l2 by omega)] at hMh
            rw [if_pos (by omega), hMh]
          · rw [if_neg r1, if_neg r2, if_neg (by split at hLh <;> omega)]
            rfl
        · rw [if_neg (fun t => q2 (a2.mp t).1), Int64.add_zero]
          by_cases r1 : l1 = z1
          · rw [if_pos r1]
            rw [if_pos (Or.inr (by omega))] at hLh hMh
            rw [if_pos (by omega), hMh]
          · rw [if_neg r1, if_neg (by split at hLh <;> omega)]
      · rw [if_neg (fun t => q1 (a1.mp t)), Int64.zero_add]
        have q2 : c2 = L0 := by omega
        rw [if_pos (a2.mpr ⟨q2, hbl⟩)]
        by_cases r2 : l2 = z2
        · rw [if_pos r2]
          rw [if_neg (fun t => t.elim hbl (fun t => by omega))] at hLh hMh
          rw [if_neg (show ¬ u1 + l1 = u2 + l2 by omega)] at hMh
          rw [if_pos (by omega), hMh]
        · rw [if_neg r2, if_neg (by split at hLh <;> omega)]
/-- what is told next, as the model finds it -/
noncomputable def nbW (D : Nat) (oc sc : Nat → Nat) (db : Nat → Nat → Nat) (d s : Nat) : Nat → Int32
  | 0 => -1
  | j + 1 => @ite _ ((2 - j = s ∨ 2 - j = othS s) ∧ csW D oc sc db d s (2 - j) = LW D oc sc db (fun _ => false) (D - d) s) (Classical.propDecidable _) (nI (2 - j)) (nbW D oc sc db d s j)
theorem nb_nx {D : Nat} {oc sc : Nat → Nat} {db : Nat → Nat → Nat} {d s : Nat} (hd : d < D) (hs : s < 3) : nbW D oc sc db d s 3 = nI (nxW D oc sc db d s) := by
  have hL := LW_min (D := D) (oc := oc) (sc := sc) (db := db) (s := s) hd
  have e3 : nbW D oc sc db d s 3 = @ite _ ((0 = s ∨ 0 = othS s) ∧ csW D oc sc db d s 0 = LW D oc sc db (fun _ => false) (D - d) s) (Classical.propDecidable _) (nI 0) (@ite _ ((1 = s ∨ 1 = othS s) ∧ csW D oc sc db d s 1 = LW D oc sc db (fun _ => false) (D - d) s) (Classical.propDecidable _) (nI 1) (@ite _ ((2 = s ∨ 2 = othS s) ∧ csW D oc sc db d s 2 = LW D oc sc db (fun _ => false) (D - d) s) (Classical.propDecidable _) (nI 2) (-1))) := rfl
  have en : nxW D oc sc db d s = if csW D oc sc db d s (if othS s < s then othS s else s) = LW D oc sc db (fun _ => false) (D - d) s then (if othS s < s then othS s else s) else (s + othS s - (if othS s < s then othS s else s)) := rfl
  rw [e3, en]
  have h : s = 0 ∨ s = 1 ∨ s = 2 := by omega
  rcases h with rfl | rfl | rfl
  · have e1 : othS 0 = 1 := rfl
    have hm : (if othS 0 < 0 then othS 0 else 0) = 0 := rfl
    rw [hm]
    rw [e1] at hL ⊢
    by_cases q : csW D oc sc db d 0 0 = LW D oc sc db (fun _ => false) (D - d) 0
    · rw [if_pos ⟨Or.inl rfl, q⟩, if_pos q]
    · have q2 : csW D oc sc db d 0 1 = LW D oc sc db (fun _ => false) (D - d) 0 := by split at hL <;> omega
      rw [if_neg (fun t => q t.2), if_neg q, if_pos ⟨Or.inr rfl, q2⟩]
  · have e1 : othS 1 = 2 := rfl
    have hm : (if othS 1 < 1 then othS 1 else 1) = 1 := rfl
    rw [hm]
    rw [e1] at hL ⊢
    have n0 : ¬ ((0 = 1 ∨ 0 = 2) ∧ csW D oc sc db d 1 0 = LW D oc sc db (fun _ => false) (D - d) 1) := fun t => by omega
    by_cases q : csW D oc sc db d 1 1 = LW D oc sc db (fun _ => false) (D - d) 1
    · rw [if_neg n0, if_pos ⟨Or.inl rfl, q⟩, if_pos q]
    · have q2 : csW D oc sc db d 1 2 = LW D oc sc db (fun _ => false) (D - d) 1 := by split at hL <;> omega
      rw [if_neg n0, if_neg (fun t => q t.2), if_neg q, if_pos ⟨Or.inr rfl, q2⟩]
  · have e1 : othS 2 = 1 := rfl
    have hm : (if othS 2 < 2 then othS 2 else 2) = 1 := rfl
    rw [hm]
    rw [e1] at hL ⊢
    have n0 : ¬ ((0 = 2 ∨ 0 = 1) ∧ csW D oc sc db d 2 0 = LW D oc sc db (fun _ => false) (D - d) 2) := fun t => by omega
    by_cases q : csW D oc sc db d 2 1 = LW D oc sc db (fun _ => false) (D - d) 2
    · rw [if_neg n0, if_pos ⟨Or.inr rfl, q⟩, if_pos q]
    · have q2 : csW D oc sc db d 2 2 = LW D oc sc db (fun _ => false) (D - d) 2 := by split at hL <;> omega
      rw [if_neg n0, if_neg (fun t => q t.2), if_neg q, if_pos ⟨Or.inl rfl, q2⟩]
section MTL
variable {γ : rG} {l : Launch} {sh : Nat × (Nat → Nat) × (Nat → Nat)} {I : Nat → Nat → Int32} {J : Nat → Nat → Int64} {R : Nat → Nat → Option Nat} {m D : Nat} {oc sc : Nat → Nat} {db : Nat → Nat → Nat} {idl : Nat → Bool}
def CsM (I : Nat → Nat → Int32) (m D : Nat) (oc sc : Nat → Nat) : Prop := ∀ d, d < D → I (m + 52) d = nI (oc d) ∧ I (m + 53) d = nI (sc d)
theorem ct_change {d s x : Nat} (hA : At9 sh R m) (hD : D ≤ 36) (hC : CsM I m D oc sc) (hd : d < D) (hs : s < 3) (hx : x < 3) : rMet γ l m_X9_change [.ref m, .int (nI d), .int (nI s), .int (nI x)] (sh, I, J, R) (sh, I, J, R) (some (.int (nI (chF oc sc d s x)))) := by
  obtain ⟨q1, q2⟩ := hC d hd
  have hv : vp_in (nI d) 36 := vp_in_nI (by omega) (by decide)
  refine e_X9_change (rW_pure (w_X9_change_0 hA ?_))
  rw [nI_clamp (by omega), q1, q2, nI_eq (by omega) (by omega), show (1 : Int32) = nI 1 by decide, show (2 : Int32) = nI 2 by decide, nI_eq (by omega) (by decide), nI_eq (by omega) (by decide), nI_eq (by omega) (by decide)]
  have ho : othS s = if s = 1 then 2 else 1 := rfl
  refine ⟨fun z => ⟨rfl, ?_⟩, fun z => ⟨fun y => ⟨hv, rfl, ?_⟩, fun y => ⟨fun w => ⟨fun u => ⟨hv, rfl, ?_⟩, fun u => ⟨rfl, ?_⟩⟩, fun w => ⟨rfl, ?_⟩⟩⟩⟩
  · unfold chF chC; rw [if_pos (Or.inl z.symm), if_pos z.symm, nI_0]
  · have : x = othS s := by rw [ho]; split <;> omega
    unfold chF chC; rw [if_pos (Or.inr this), if_neg (fun t => z t.symm), if_pos y]
  · have : x = othS s := by rw [ho, if_pos u]; exact w
    unfold chF chC; rw [if_pos (Or.inr this), if_neg (fun t => z t.symm), if_neg y]
  · have : ¬ (x = s ∨ x = othS s) := by rw [ho, if_neg u]; omega
    unfold chF; rw [if_neg this]; rfl
  · have : ¬ (x = s ∨ x = othS s) := by rw [ho]; split <;> omega
    unfold chF; rw [if_neg this]; rfl
theorem far_iff {d s x : Nat} (hb : Bw D oc sc db) (hd : d < D) : (100000000 : Int32) ≤ nI (chF oc sc d s x) ↔ ¬ (x = s ∨ x = othS s) := by
  have h1 := chC_le hb (d := d) (s := s) (x := x) hd
  rw [show (100000000 : Int32) = nI 100000000 by decide]
  unfold chF
  by_cases q : x = s ∨ x = othS s
  · rw [if_pos q, nI_leI (by decide) (by omega)]; exact ⟨fun t => by omega, fun t => absurd q t⟩
  · rw [if_neg q]; exact ⟨fun _ => q, fun _ => nI_le (Nat.le_refl _) (by decide)⟩
/-- the row 'rest' of day d -/
def RsM (I : Nat → Nat → Int32) (m D : Nat) (oc sc : Nat → Nat) (db : Nat → Nat → Nat) (d : Nat) : Prop := ∀ x, x < 3 → I (m + 50) (3 * d + x) = nI (db d x + LW D oc sc db (fun _ => false) (D - (d + 1)) x)
theorem cs_sum {d s x : Nat} (hb : Bw D oc sc db) (hx : x < 3) (hal : x = s ∨ x = othS s) (hr : RsM I m D oc sc db d) : nI (chF oc sc d s x) + I (m + 50) (3 * d + x) = nI (csW D oc sc db d s x) := by
  rw [hr x hx, nI_add]
  unfold chF csW
  rw [if_pos hal, Nat.add_assoc]
theorem ct_mleast {d f : Nat} (hA : At9 sh R m) (hb : Bw D oc sc db) (hC : CsM I m D oc sc) (hd : d < D) (hf : f < 3) (hr : RsM I m D oc sc db d) : rMet γ l m_X9_least [.ref m, .int (nI d), .int (nI f)] (sh, I, J, R) (sh, I, J, R) (some (.int (nI (LW D oc sc db (fun _ => false) (D - d) f)))) := by
  have h36 := hb.1
  have ho := oth_lt hf
  have c1 := csW_le (s := f) hb hd hf
  have c2 := csW_le (s := f) hb hd ho.1
  have fin : bsW (csW D oc sc db d f) f 3 = LW D oc sc db (fun _ => false) (D - d) f := by rw [bsW_3 hf (by omega) (by omega), LW_min hd]
  have bb : ∀ x, bsW (csW D oc sc db d f) f x ≤ 100000000 := by
    intro x
    induction x with
    | zero => exact Nat.le_refl _
    | succ x ih => simp only [bsW]; split <;> omega
  have lp : ∀ j x, x + j = 3 → s_X9_least_7 γ l m (nI d) (nI f) (nI (bsW (csW D oc sc db d f) f x)) (nI x) (sh, I, J, R) (fun hf v => hf = (sh, I, J, R) ∧ v = some (.int (nI (LW D oc sc db (fun _ => false) (D - d) f)))) := by
    intro j
    induction j with
    | zero =>
      intro x hx
      have e : x = 3 := by omega
      subst e
      refine w_X9_least_7 hA ⟨fun _ => ⟨rfl, ?_⟩, fun z => absurd (by decide) z⟩
      rw [fin]
    | succ j ih =>
      intro x hx
      have nx := ih (x + 1) (by omega)
      have hv : vp_in (nI (3 * d + x)) 108 := vp_in_nI (by omega) (by decide)
      have b1 := bb x
      refine w_X9_least_7 hA ⟨fun z => absurd z (nI_ge (show x < 3 by omega) (by decide)), fun _ => ⟨_, ct_change hA h36 hC hd hf (by omega), ?_⟩⟩
      rw [far_iff hb hd, e3, nI_clamp (show 3 * d + x < 2 ^ 31 by omega), nI_1]
      refine ⟨fun z => ?_, fun z => ⟨hv, ?_⟩⟩
      · simp only [bsW] at nx
        rw [if_neg (fun t => z t.1)] at nx
        exact nx
      · have z' := Classical.not_not.mp z
        have cx := csW_le (s := f) hb hd (show x < 3 by omega)
        rw [cs_sum hb (by omega) z' hr, nI_leI (by omega) (by omega)]
        simp only [bsW] at nx
        refine ⟨fun y => ?_, fun y => ⟨hv, ?_⟩⟩
        · rw [if_neg (fun t => by omega)] at nx; exact nx
        · rw [if_pos ⟨z', by omega⟩] at nx; exact nx
  have l0 := lp 3 0 (by omega)
  exact e_X9_least (rW_pure (w_X9_least_0 hA l0))
theorem ct_onward {d f : Nat} {x : Int32} {ho : Nat → Nat} {w : Nat → Int64} (hA : At9 sh R m) (hb : Bw D oc sc db) (hC : CsM I m D oc sc) (hd : d < D) (hf : f < 3) (hr : RsM I m D oc sc db d) (h46 : I (m + 46) d = x ↔ idl d = true) (hw : ∀ t, t < 3 → J (m + 51) (3 * d + t) = w t) : rMet γ l m_X9_onward [.ref m, .int (nI d), .int (nI f), .int x] (sh, I, J, R) (sh, I, J, R) (some (.long (onN D oc sc db idl d f w 3))) := by
  have h36 := hb.1
  have lb := LW_le (idl := fun _ => false) hb (D - d) (by omega) f hf
  have lp : ∀ j t, t + j = 3 → s_X9_onward_14 γ l m (nI d) (nI f) x (nI (LW D oc sc db (fun _ => false) (D - d) f)) (onN D oc sc db idl d f w t) (nI t) (sh, I, J, R) (fun hf v => hf = (sh, I, J, R) ∧ v = some (.long (onN D oc sc db idl d f w 3))) := by
    intro j
    induction j with
    | zero =>
      intro t ht
      have e : t = 3 := by omega
      subst e
      exact w_X9_onward_14 hA ⟨fun _ => ⟨rfl, rfl⟩, fun z => absurd (by decide) z⟩
    | succ j ih =>
      intro t ht
      have nx := ih (t + 1) (by omega)
      have hv : vp_in (nI (3 * d + t)) 108 := vp_in_nI (by omega) (by decide)
      have skip : ¬ onA D oc sc db idl d f t → s_X9_onward_14 γ l m (nI d) (nI f) x (nI (LW D oc sc db (fun _ => false) (D - d) f)) (onN D oc sc db idl d f w t) (nI (t + 1)) (sh, I, J, R) (fun hf v => hf = (sh, I, J, R) ∧ v = some (.long (onN D oc sc db idl d f w 3))) := by
        intro h
        rw [onN_s.2 h] at nx
        exact nx
      have take : onA D oc sc db idl d f t → s_X9_onward_81 γ l m (nI d) (nI f) x (nI (LW D oc sc db (fun _ => false) (D - d) f)) (onN D oc sc db idl d f w t) (nI t) (sh, I, J, R) (fun hf v => hf = (sh, I, J, R) ∧ v = some (.long (onN D oc sc db idl d f w 3))) := by
        intro h
        refine w_X9_onward_81 hA ?_
        rw [e3, nI_clamp (show 3 * d + t < 2 ^ 31 by omega), hw t (by omega), nI_1]
        rw [onN_s.1 h] at nx
        exact ⟨hv, nx⟩
      refine w_X9_onward_14 hA ⟨fun z => absurd z (nI_ge (show t < 3 by omega) (by decide)), fun _ => ⟨_, ct_change hA h36 hC hd hf (by omega), ?_⟩⟩
      rw [far_iff hb hd, e3, nI_clamp (show 3 * d + t < 2 ^ 31 by omega), nI_1]
      refine ⟨fun z => skip (fun u => z u.1), fun z => ⟨hv, ?_⟩⟩
      have z' := Classical.not_not.mp z
      have cx := csW_le (s := f) hb hd (show t < 3 by omega)
      rw [cs_sum hb (by omega) z' hr, nI_eq (by omega) (by omega), show (1 : Int32) = nI 1 by decide, nI_eq (by omega) (by decide), nI_eq (by omega) (by decide), nI_clamp (show d < 2 ^ 31 by omega), h46]
      refine ⟨fun y => ⟨fun u => ⟨fun v => take ⟨z', y, fun k => k.2.1 v⟩, fun v => ⟨vp_in_nI (by omega) (by decide), fun k => skip (fun q => q.2.2 ⟨u, v, k⟩), fun k => take ⟨z', y, fun q => k q.2.2⟩⟩⟩, fun u => take ⟨z', y, fun k => u k.1⟩⟩, fun y => skip (fun u => y u.2.1)⟩
  have l0 := lp 3 0 (by omega)
  exact e_X9_onward (rW_pure (w_X9_onward_0 hA ⟨_, ct_mleast hA hb hC hd hf hr, l0⟩))
theorem ct_talesBut {x : Int32} {ho : Nat → Nat} (hA : At9 sh R m) (hb : Bw D oc sc db) (hC : CsM I m D oc sc) (h71 : I m 71 = nI D) (hr : ∀ d, d < D → RsM I m D oc sc db d) (h46 : ∀ d, d < D → (I (m + 46) d = x ↔ idl d = true)) :
    ∃ J', rMet γ l m_X9_talesBut [.ref m, .int x] (sh, I, J, R) (sh, I, J', R) (some (.long (MO D oc sc db idl D 0))) ∧ SmJ (m + 51) J J' := by
  have h36 := hb.1
  have key : s_X9_talesBut_0 γ l m x (sh, I, J, R) (fun hf v => ∃ I' J', hf = (sh, I', J', R) ∧ v = some (.long (MO D oc sc db idl D 0)) ∧ (I' = I ∧ SmJ (m + 51) J J')) := by
    refine w_X9_talesBut_0 hA ?_
    rw [h71]
    refine ⟨fun z => ⟨I, J, rfl, ?_, rfl, SmJ.rf⟩, fun z => ?_⟩
    · have : D = 0 := by
        rcases Nat.eq_zero_or_pos D with q | q
        · exact q
        · exact absurd z (nI_ne0 q (by omega))
      rw [this]; rfl
    · have hD : 0 < D := by
        rcases Nat.eq_zero_or_pos D with q | q
        · rw [q] at z; exact absurd (by decide) z
        · exact q
      have lp : ∀ k (J1 : Nat → Nat → Int64), k ≤ D → (∀ d t, k ≤ d → d < D → t < 3 → J1 (m + 51) (3 * d + t) = MO D oc sc db idl (D - (d + 1)) t) → SmJ (m + 51) J J1 → s_X9_talesBut_16 γ l m x (nI k - 1) (sh, I, J1, R) (fun hf v => ∃ I' J', hf = (sh, I', J', R) ∧ v = some (.long (MO D oc sc db idl D 0)) ∧ (I' = I ∧ SmJ (m + 51) J J')) := by
        intro k
        induction k with
        | zero =>
          intro J1 _ hW hJ
          have on := ct_onward (γ := γ) (l := l) (J := J1) (idl := idl) (w := MO D oc sc db idl (D - 1)) (ho := ho) hA hb hC hD (show 0 < 3 by omega) (hr 0 hD) (h46 0 hD) (fun t ht => hW 0 t (Nat.le_refl _) hD ht)
          have e : onN D oc sc db idl 0 0 (MO D oc sc db idl (D - 1)) 3 = MO D oc sc db idl D 0 := by
            have : MO D oc sc db idl (D - 1 + 1) 0 = onN D oc sc db idl (D - (D - 1 + 1)) 0 (MO D oc sc db idl (D - 1)) 3 := rfl
            rw [show D - 1 + 1 = D by omega, Nat.sub_self] at this
            exact this.symm
          rw [e, nI_0] at on
          exact w_X9_talesBut_16 hA ⟨fun _ => ⟨_, on, I, J1, rfl, rfl, rfl, hJ⟩, fun z => absurd (by decide) z⟩
        | succ k ih =>
          intro J1 hk hW hJ
          rw [nI_pred]
          have inn : ∀ j t (J2 : Nat → Nat → Int64), t + j = 3 → (∀ d u, k + 1 ≤ d → d < D → u < 3 → J2 (m + 51) (3 * d + u) = MO D oc sc db idl (D - (d + 1)) u) → (∀ u, u < t → J2 (m + 51) (3 * k + u) = MO D oc sc db idl (D - (k + 1)) u) → SmJ (m + 51) J J2 → s_X9_talesBut_22 γ l m x (nI k) (nI t) (sh, I, J2, R) (fun hf v => ∃ I' J', hf = (sh, I', J', R) ∧ v = some (.long (MO D oc sc db idl D 0)) ∧ (I' = I ∧ SmJ (m + 51) J J')) := by
            intro j
            induction j with
            | zero =>
              intro t J2 ht h1 h2 h3
              have e : t = 3 := by omega
              subst e
              refine w_X9_talesBut_22 hA ⟨fun _ => ?_, fun z => absurd (by decide) z⟩
              have := ih J2 (by omega) (fun d u q1 q2 q3 => by
                by_cases e : d = k
                · subst e; exact h2 u q3
                · exact h1 d u (by omega) q2 q3) h3
              rw [Int32.sub_eq_add_neg] at this
              exact this
            | succ j ih2 =>
              intro t J2 ht h1 h2 h3
              have hv : vp_in (nI (3 * k + t)) 108 := vp_in_nI (by omega) (by decide)
              have nx : ∀ v : Int64, v = MO D oc sc db idl (D - (k + 1)) t → s_X9_talesBut_22 γ l m x (nI k) (nI (t + 1)) (sh, I, up J2 (m + 51) (3 * k + t) v, R) (fun hf v => ∃ I' J', hf = (sh, I', J', R) ∧ v = some (.long (MO D oc sc db idl D 0)) ∧ (I' = I ∧ SmJ (m + 51) J J')) := by
                intro v hv2
                refine ih2 (t + 1) _ (by omega) (fun d u q1 q2 q3 => by rw [up_at, if_neg (by omega)]; exact h1 d u q1 q2 q3) (fun u hu => ?_) h3.up
                by_cases e : u = t
                · subst e; rw [up_at, if_pos ⟨rfl, rfl⟩, hv2]
                · rw [up_at, if_neg (by omega)]; exact h2 u (by omega)
              refine w_X9_talesBut_22 hA ⟨fun z => absurd z (nI_ge (show t < 3 by omega) (by decide)), fun _ => ?_⟩
              rw [h71, show nI D - (1 : Int32) = nI (D - 1) from pk_sub (b := 1) (by omega), nI_eq (by omega) (by omega), e3, nI_clamp (show 3 * k + t < 2 ^ 31 by omega), nI_1, nI_1]
              refine ⟨fun y => ⟨hv, nx _ ?_⟩, fun y => ⟨onN D oc sc db idl (k + 1) t (MO D oc sc db idl (D - (k + 1 + 1))) 3, ?_, hv, nx _ ?_⟩⟩
              · rw [show D - (k + 1) = 0 by omega]; rfl
              · exact ct_onward (γ := γ) (l := l) (J := J2) (idl := idl) (w := MO D oc sc db idl (D - (k + 1 + 1))) (ho := ho) hA hb hC (by omega) (show t < 3 by omega) (hr (k + 1) (by omega)) (h46 (k + 1) (by omega)) (fun u hu => h1 (k + 1) u (Nat.le_refl _) (by omega) hu)
              · have : MO D oc sc db idl (D - (k + 1 + 1) + 1) t = onN D oc sc db idl (D - (D - (k + 1 + 1) + 1)) t (MO D oc sc db idl (D - (k + 1 + 1))) 3 := rfl
                rw [show D - (k + 1 + 1) + 1 = D - (k + 1) by omega, show D - (D - (k + 1)) = k + 1 by omega] at this
                exact this.symm
          refine w_X9_talesBut_16 hA ⟨fun z => absurd z (nI_pos (by omega)), fun _ => ?_⟩
          have := inn 3 0 J1 (by omega) (fun d u q1 q2 q3 => hW d u q1 q2 q3) (fun u hu => by omega) hJ
          rw [nI_0] at this
          exact this
      exact lp D J (Nat.le_refl _) (fun d t q1 q2 _ => by omega) SmJ.rf
  obtain ⟨I', J', h1, rfl, h3⟩ := rW_exJ key
  exact ⟨J', e_X9_talesBut h1, h3⟩
end MTL
