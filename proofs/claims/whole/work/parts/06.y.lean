/-! ===== new cells: the next number, all places 0 ===== -/
section RN
variable {γ : rG} {l : Launch} {M : rM} {k n pc : Nat} {L : List (Option Value)} {st : List Value} {hf : rHeap} {r : Option Value} {sh : Nat × (Nat → Nat) × (Nat → Nat)} {I : Nat → Nat → Int32} {J : Nat → Nat → Int64} {R : Nat → Nat → Option Nat}
def nSh (sh : Nat × (Nat → Nat) × (Nat → Nat)) (kd len : Nat) : Nat × (Nat → Nat) × (Nat → Nat) := (sh.1 + 1, va_up sh.2.1 sh.1 kd, va_up sh.2.2 sh.1 len)
/-- a cell's row, blank -/
def nRow {α : Type} (f : Nat → Nat → α) (a : Nat) (z : α) : Nat → Nat → α := fun b => if b = a then (fun _ => z) else f b
def nHp (sh : Nat × (Nat → Nat) × (Nat → Nat)) (I : Nat → Nat → Int32) (J : Nat → Nat → Int64) (R : Nat → Nat → Option Nat) (kd len : Nat) : rHeap := (nSh sh kd len, nRow I sh.1 0, nRow J sh.1 0, nRow R sh.1 none)
theorem rws_new (γ : rG) (kd len : Nat) : rws γ (nHp sh I J R kd len) = rws γ (sh, I, J, R) ++ [(gB γ + sh.1, rcl γ kd len (fun _ => 0) (fun _ => 0) (fun _ => none))] := by
  apply List.ext_getElem?
  intro j
  simp only [rws, nHp, nSh]
  by_cases hj : j < sh.1
  · have hj2 : j < sh.1 + 1 := by omega
    have hne : ¬ j = sh.1 := by omega
    rw [List.getElem?_append_left (by simp [hj])]
    simp [hj, hj2, rce, nRow, va_up, hne]
  · by_cases he : j = sh.1
    · subst he
      rw [List.getElem?_append_right (by simp)]
      simp [rce, nRow, va_up]
    · have h1 : ¬ j < sh.1 + 1 := by omega
      rw [List.getElem?_append_right (by simp; omega)]
      simp [h1]
      intro hx
      omega
theorem r_newc {c idx : Nat} (d : decode (mB M) pc = .ok (.new idx, 3)) (hl : Cond.classLink (mOwn M) idx (rCn c) ∈ lw_tbl) (hi : Cond.instantiable (rCn c) (rN c) ∈ lw_tbl) (hz : Cond.initialized (rCn c) ∈ lw_tbl) (hc : c < 10) (hk : k + 1 ≤ mC M) (hn : n + rN c ≤ mS M)
    (kk : rV γ l M (k + 1) (n + rN c) (pc + 3) L (.ref sh.1 :: st) (nHp sh I J R c 0) hf r) : rV γ l M k n pc L st (sh, I, J, R) hf r := by
  intro p e s m args below meth c0 H locs ls hC hL hH hS
  have hts := hC.2.2.2.2.2.1
  have hKn := hC.2.2.2.2.2.2.2.2.1.1 c _ (rCl_at c hc)
  refine W.newcK hC.1 hC.2.1 hC.2.2.2.2.1 (hts _ (rTbl_mem hl rfl)) (hts _ (rTbl_mem hi rfl)) (hts _ (rTbl_mem hz rfl)) rfl d hk hn hKn.2.1 hH.1 fun H1 kC hkC e1 z1 o1 => ?_
  have hP := hH.2
  have hkp : ∀ (k : Nat) (x : Nat × va_E), (rws γ (sh, I, J, R))[k]? = some x → H1[x.1]? = H[x.1]? := fun k x hx => o1 x.1 (by rw [← hH.1]; exact (hP k x hx).lt)
  have hP1 : va_P (gD γ) vwCl (rws γ (nHp sh I J R c 0)) H1 := by
    rw [rws_new]
    refine (hP.kept hkp).app (fun k x hx => ?_)
    have hz : k < 1 := (List.getElem?_eq_some_iff.mp hx).1
    rw [show k = 0 by omega] at hx
    cases hx
    show va_at _ _ (gB γ + sh.1, rcl γ c 0 _ _ _) H1
    unfold rcl
    rw [if_pos hc]
    refine ⟨_, rCl_at c hc, (u_born (rty c) hts (r_inT c hc) hKn hkC e1 (r_ty c hc)).to (fun j hj => ?_)⟩
    have h1 : vp_V (rfs γ c (fun _ => 0) (fun _ => none)) j = rfv γ c (fun _ => 0) (fun _ => none) j := by
      unfold vp_V
      rw [List.getD_eq_getElem?_getD, rfs_at γ hj]
      rfl
    rw [h1]
    have hpd := r_pd c hc j hj
    unfold rfv rIsR
    revert hpd
    cases rty c j <;> simp [defaultValue, rad, va_rf, rIsR]
  exact kk p e s m args below meth c0 H1 locs ls hC hL ⟨z1, hP1⟩ ⟨Nat.le_trans hS.1 (by rw [z1, hH.1]; exact Nat.le_succ _), fun q h1 h2 => by rw [o1 q (Nat.lt_of_lt_of_le h1 (by rw [← hH.1]; exact hS.1))]; exact hS.2.1 q h1 h2, hS.2.2⟩
theorem r_newa {at_ : ArrayType} {i : Int32} {N kd : Nat} (d : decode (mB M) pc = .ok (.newarray at_, 2)) (hw : Cond.arrayClass (newarray.typeOf at_) ∈ lw_tbl) (hkd : (at_ = .int ∧ kd = 11) ∨ (at_ = .byte ∧ kd = 10) ∨ (at_ = .long ∧ kd = 12) ∨ (at_ = .boolean ∧ kd = 13)) (h0 : ¬ i < 0) (hN : i.toNatClampNeg = N) (hN2 : N ≤ 60000000) (hk : k + 1 ≤ mC M) (hn : n + N ≤ mS M)
    (kk : rV γ l M (k + 1) (n + N) (pc + 2) L (.ref sh.1 :: st) (nHp sh I J R kd N) hf r) : rV γ l M k n pc L (.int i :: st) (sh, I, J, R) hf r := by
  intro p e s m args below meth c0 H locs ls hC hL hH hS
  have hts := hC.2.2.2.2.2.1
  have hK := hC.2.2.2.2.2.2.2.2.1
  have hby : N * componentBytes (newarray.typeOf at_) ≤ 536870912 := by
    rcases hkd with ⟨rfl, -⟩ | ⟨rfl, -⟩ | ⟨rfl, -⟩ | ⟨rfl, -⟩ <;> simp [newarray.typeOf, componentBytes] <;> omega
  refine va_newaK hC.1 hC.2.1 (hts _ (rTbl_mem hw rfl)) rfl d rfl h0 hN hby hk hn hH.1 fun H1 cA e1 z1 o1 hAr hNm => ?_
  have hP := hH.2
  have hkp : ∀ (k : Nat) (x : Nat × va_E), (rws γ (sh, I, J, R))[k]? = some x → H1[x.1]? = H[x.1]? := fun k x hx => o1 x.1 (by rw [← hH.1]; exact (hP k x hx).lt)
  have hP1 : va_P (gD γ) vwCl (rws γ (nHp sh I J R kd N)) H1 := by
    rw [rws_new]
    refine (hP.kept hkp).app (fun k x hx => ?_)
    have hz : k < 1 := (List.getElem?_eq_some_iff.mp hx).1
    rw [show k = 0 by omega] at hx
    cases hx
    show va_at _ _ (gB γ + sh.1, rcl γ kd N _ _ _) H1
    rcases hkd with ⟨rfl, rfl⟩ | ⟨rfl, rfl⟩ | ⟨rfl, rfl⟩ | ⟨rfl, rfl⟩
    · have hc : cA = gA γ 11 := Option.some.inj (hNm.symm.trans (hK.2 1 _ rfl).2)
      subst hc
      exact e1
    · have hc : cA = gA γ 10 := Option.some.inj (hNm.symm.trans (hK.2 0 _ rfl).2)
      subst hc
      exact e1
    · have hc : cA = gA γ 12 := Option.some.inj (hNm.symm.trans (hK.2 2 _ rfl).2)
      subst hc
      exact e1
    · have hc : cA = gA γ 13 := Option.some.inj (hNm.symm.trans (hK.2 3 _ rfl).2)
      subst hc
      exact e1
  exact kk p e s m args below meth c0 H1 locs ls hC hL ⟨z1, hP1⟩ ⟨Nat.le_trans hS.1 (by rw [z1, hH.1]; exact Nat.le_succ _), fun q h1 h2 => by rw [o1 q (Nat.lt_of_lt_of_le h1 (by rw [← hH.1]; exact hS.1))]; exact hS.2.1 q h1 h2, hS.2.2⟩
theorem r_anewa {i : Int32} {idx N : Nat} (d : decode (mB M) pc = .ok (.anewarray idx, 3)) (hl : Cond.classLink (mOwn M) idx RX2 ∈ lw_tbl) (h0 : ¬ i < 0) (hN : i.toNatClampNeg = N) (hN2 : N ≤ 60000000) (hk : k + 1 ≤ mC M) (hn : n + N ≤ mS M)
    (kk : rV γ l M (k + 1) (n + N) (pc + 3) L (.ref sh.1 :: st) (nHp sh I J R 14 N) hf r) : rV γ l M k n pc L (.int i :: st) (sh, I, J, R) hf r := by
  intro p e s m args below meth c0 H locs ls hC hL hH hS
  have hts := hC.2.2.2.2.2.1
  have hK := hC.2.2.2.2.2.2.2.2.1
  subst hN
  refine W.anew hC.1 hC.2.1 hC.2.2.2.2.1 (hts _ (rTbl_mem hl rfl)) (va_AO.use hC.2.2.2.2.2.2.2.2.2.1.2.2.2.2.2.2.2.2.2.2) rfl d rfl h0 (by omega) hk hn fun cA kA comp f1 f2 f3 f4 => ?_
  generalize hH1 : H.push ({ cls := cA, slots := Array.replicate i.toNatClampNeg .null, vm := .none } : Cell) = H1
  have z1 : H1.size = H.size + 1 := by rw [← hH1, Array.size_push]
  have e1 : H1[H.size]? = some (arrV cA i.toNatClampNeg (fun _ => .null)) := by rw [← hH1, Array.getElem?_push_size, ← arrV_new]
  have o1 : ∀ q : Nat, q < H.size → H1[q]? = H[q]? := fun q hq => by rw [← hH1, Array.getElem?_push, if_neg (Nat.ne_of_lt hq)]
  have hP := hH.2
  have hkp : ∀ (k : Nat) (x : Nat × va_E), (rws γ (sh, I, J, R))[k]? = some x → H1[x.1]? = H[x.1]? := fun k x hx => o1 x.1 ((hP k x hx).lt)
  have hP1 : va_P (gD γ) vwCl (rws γ (nHp sh I J R 14 i.toNatClampNeg)) H1 := by
    rw [rws_new]
    refine (hP.kept hkp).app (fun k x hx => ?_)
    have hz : k < 1 := (List.getElem?_eq_some_iff.mp hx).1
    rw [show k = 0 by omega] at hx
    cases hx
    show va_at _ _ (gB γ + sh.1, rcl γ 14 _ _ _ _) H1
    obtain ⟨kA', comp', g1, g2, g3, g4⟩ := (hK.2 4 _ rfl).2
    have hc : cA = gA γ 14 := Option.some.inj (f1.symm.trans g4)
    subst hc
    rw [hH.1] at e1
    exact e1
  rw [hH.1]
  exact kk p e s m args below meth c0 H1 locs ls hC hL ⟨by rw [z1, hH.1]; rfl, hP1⟩ ⟨Nat.le_trans hS.1 (by rw [z1]; exact Nat.le_succ _), fun q h1 h2 => by rw [o1 q (Nat.lt_of_lt_of_le h1 hS.1)]; exact hS.2.1 q h1 h2, hS.2.2⟩
end RN
