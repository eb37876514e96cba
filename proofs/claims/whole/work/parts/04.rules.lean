/-! ===== one row an instruction ===== -/
section RR
variable {γ : rG} {l : Launch} {M : rM} {k n pc : Nat} {L : List (Option Value)} {st : List Value} {h hf : rHeap} {r : Option Value}
def rK (sh : Nat × (Nat → Nat) × (Nat → Nat)) (a c : Nat) : Prop := a < sh.1 ∧ sh.2.1 a = c
theorem r_iconst {z : Int} {v : Int32} (d : decode (mB M) pc = .ok (.iconst z, 1)) (hv : Int32.ofInt z = v) (kk : rV γ l M k n (pc + 1) L (.int v :: st) h hf r) : rV γ l M k n pc L (st) h hf r := fun p e s m args below meth c H locs ls hC hL hH hS => lv_iconst hC.1 hC.2.1 d hv (kk p e s m args below meth c H locs ls hC hL hH hS)
theorem r_bipush {z : Int} {v : Int32} (d : decode (mB M) pc = .ok (.bipush z, 2)) (hv : (Int8.ofInt z).toInt32 = v) (kk : rV γ l M k n (pc + 2) L (.int v :: st) h hf r) : rV γ l M k n pc L (st) h hf r := fun p e s m args below meth c H locs ls hC hL hH hS => lv_bipush hC.1 hC.2.1 d hv (kk p e s m args below meth c H locs ls hC hL hH hS)
theorem r_sipush {z : Int} {v : Int32} (d : decode (mB M) pc = .ok (.sipush z, 3)) (hv : (Int16.ofInt z).toInt32 = v) (kk : rV γ l M k n (pc + 3) L (.int v :: st) h hf r) : rV γ l M k n pc L (st) h hf r := fun p e s m args below meth c H locs ls hC hL hH hS => lv_sipush hC.1 hC.2.1 d hv (kk p e s m args below meth c H locs ls hC hL hH hS)
theorem r_lconst {z : Fin 2} {v : Int64} (d : decode (mB M) pc = .ok (.lconst z, 1)) (hv : Int64.ofNat (z : Nat) = v) (kk : rV γ l M k n (pc + 1) L (.long v :: st) h hf r) : rV γ l M k n pc L (st) h hf r := fun p e s m args below meth c H locs ls hC hL hH hS => lv_lconst hC.1 hC.2.1 d hv (kk p e s m args below meth c H locs ls hC hL hH hS)
theorem r_iload_n {i : Fin 4} {x : Int32} (d : decode (mB M) pc = .ok (.iload_n i, 1)) (hl : L[(i : Nat)]? = some (some (.int x))) (kk : rV γ l M k n (pc + 1) L (.int x :: st) h hf r) : rV γ l M k n pc L st h hf r := fun p e s m args below meth c H locs ls hC hL hH hS => lv_iload_n hC.1 hC.2.1 d rfl (hL.2.2 _ _ hl) (kk p e s m args below meth c H locs ls hC hL hH hS)
theorem r_iload {i : Nat} {x : Int32} (d : decode (mB M) pc = .ok (.iload i, 2)) (hl : L[i]? = some (some (.int x))) (kk : rV γ l M k n (pc + 2) L (.int x :: st) h hf r) : rV γ l M k n pc L st h hf r := fun p e s m args below meth c H locs ls hC hL hH hS => lv_iload hC.1 hC.2.1 d (hL.2.2 _ _ hl) (kk p e s m args below meth c H locs ls hC hL hH hS)
theorem r_lload_n {i : Fin 4} {x : Int64} (d : decode (mB M) pc = .ok (.lload_n i, 1)) (hl : L[(i : Nat)]? = some (some (.long x))) (kk : rV γ l M k n (pc + 1) L (.long x :: st) h hf r) : rV γ l M k n pc L st h hf r := fun p e s m args below meth c H locs ls hC hL hH hS => lv_lload_n hC.1 hC.2.1 d rfl (hL.2.2 _ _ hl) (kk p e s m args below meth c H locs ls hC hL hH hS)
theorem r_lload {i : Nat} {x : Int64} (d : decode (mB M) pc = .ok (.lload i, 2)) (hl : L[i]? = some (some (.long x))) (kk : rV γ l M k n (pc + 2) L (.long x :: st) h hf r) : rV γ l M k n pc L st h hf r := fun p e s m args below meth c H locs ls hC hL hH hS => lv_lload hC.1 hC.2.1 d (hL.2.2 _ _ hl) (kk p e s m args below meth c H locs ls hC hL hH hS)
theorem r_aload_n {i : Fin 4} {x : Nat} (d : decode (mB M) pc = .ok (.aload_n i, 1)) (hl : L[(i : Nat)]? = some (some (.ref x))) (kk : rV γ l M k n (pc + 1) L (.ref x :: st) h hf r) : rV γ l M k n pc L st h hf r := fun p e s m args below meth c H locs ls hC hL hH hS => lv_aload_n hC.1 hC.2.1 d rfl (hL.2.2 _ _ hl) (kk p e s m args below meth c H locs ls hC hL hH hS)
theorem r_aload {i : Nat} {x : Nat} (d : decode (mB M) pc = .ok (.aload i, 2)) (hl : L[i]? = some (some (.ref x))) (kk : rV γ l M k n (pc + 2) L (.ref x :: st) h hf r) : rV γ l M k n pc L st h hf r := fun p e s m args below meth c H locs ls hC hL hH hS => lv_aload hC.1 hC.2.1 d (hL.2.2 _ _ hl) (kk p e s m args below meth c H locs ls hC hL hH hS)
theorem r_aload_nO {i : Fin 4} {x : UInt32} (d : decode (mB M) pc = .ok (.aload_n i, 1)) (hl : L[(i : Nat)]? = some (some (.float x))) (kk : rV γ l M k n (pc + 1) L (.float x :: st) h hf r) : rV γ l M k n pc L st h hf r := fun p e s m args below meth c H locs ls hC hL hH hS => lv_aload_n hC.1 hC.2.1 d rfl (hL.2.2 _ _ hl) (kk p e s m args below meth c H locs ls hC hL hH hS)
theorem r_aloadO {i : Nat} {x : UInt32} (d : decode (mB M) pc = .ok (.aload i, 2)) (hl : L[i]? = some (some (.float x))) (kk : rV γ l M k n (pc + 2) L (.float x :: st) h hf r) : rV γ l M k n pc L st h hf r := fun p e s m args below meth c H locs ls hC hL hH hS => lv_aload hC.1 hC.2.1 d (hL.2.2 _ _ hl) (kk p e s m args below meth c H locs ls hC hL hH hS)
/-- a place's value is lost if a long lay just before it -/
def rkill (L : List (Option Value)) (i : Nat) : List (Option Value) := match i with
  | 0 => L
  | j + 1 => match L[j]? with
    | some (some (.long _)) => L.set j none
    | some (some (.double _)) => L.set j none
    | _ => L
def rset (L : List (Option Value)) (i : Nat) (v : Value) : List (Option Value) := (rkill L i).set i (some v)
def rset2 (L : List (Option Value)) (i : Nat) (v : Value) : List (Option Value) := ((rkill L i).set (i + 1) none).set i (some v)
theorem rkill_at {L : List (Option Value)} {i j : Nat} {v : Value} (h : (rkill L i)[j]? = some (some v)) : L[j]? = some (some v) ∧ ¬ (j + 1 = i ∧ v.category = 2) := by
  unfold rkill at h
  split at h
  · exact ⟨h, fun q => by omega⟩
  · rename_i j0
    have key : ∀ u : Value, L[j0]? = some (some u) → u.category = 2 → (L.set j0 none)[j]? = some (some v) → L[j]? = some (some v) ∧ ¬ (j + 1 = j0 + 1 ∧ v.category = 2) := by
      intro u h1 h2 h3
      by_cases hj : j0 = j
      · subst hj
        simp [List.getElem?_set] at h3
      · rw [List.getElem?_set_ne hj] at h3
        exact ⟨h3, fun q => hj (by omega)⟩
    split at h
    · rename_i u hu
      exact key _ hu rfl h
    · rename_i u hu
      exact key _ hu rfl h
    · rename_i h1 h2
      refine ⟨h, fun q => ?_⟩
      obtain ⟨q1, q2⟩ := q
      have : j = j0 := by omega
      subst this
      cases v with
      | long x => exact h1 x h
      | double x => exact h2 x h
      | _ => simp [Value.category] at q2
def rlv (γ : rG) (L : List (Option Value)) : List (Nat × Value) := (List.range L.length).filterMap (fun i => match L[i]? with | some (some v) => some (i, rtr γ v) | _ => none)
theorem rlv_mem {γ : rG} {L : List (Option Value)} {i : Nat} {v : Value} (h : L[i]? = some (some v)) : (i, rtr γ v) ∈ rlv γ L := by
  refine List.mem_filterMap.mpr ⟨i, List.mem_range.mpr (List.getElem?_eq_some_iff.mp h).1, ?_⟩
  rw [h]
theorem rlv_has {γ : rG} {M : rM} {L : List (Option Value)} {ls : Array Slot} (hL : rL γ M L ls) : lv_has ls (mL M) (rlv γ L) := by
  refine ⟨hL.1, hL.2.1, fun q hq => ?_⟩
  obtain ⟨i, -, hi⟩ := List.mem_filterMap.mp hq
  split at hi
  · rename_i v hv
    cases hi
    exact hL.2.2 i v hv
  · cases hi
theorem rL_set {γ : rG} {M : rM} {L : List (Option Value)} {i : Nat} {v : Value} {ls' : Array Slot} (h : lv_has ls' (mL M) ((i, rtr γ v) :: (rlv γ L).filter (fun q => !(q.1 == i) && !(q.1 + 1 == i && q.2.category == 2)))) : rL γ M (rset L i v) ls' := by
  refine ⟨h.1, h.2.1, fun j u hj => ?_⟩
  by_cases hi : i = j
  · subst hi
    have e : u = v := by
      unfold rset at hj
      rw [List.getElem?_set] at hj
      simp at hj
      exact hj.2.symm
    subst e
    exact h.2.2 _ List.mem_cons_self
  · unfold rset at hj
    rw [List.getElem?_set_ne hi] at hj
    obtain ⟨h1, h2⟩ := rkill_at hj
    refine h.2.2 (j, rtr γ u) (List.mem_cons_of_mem _ (List.mem_filter.mpr ⟨rlv_mem h1, ?_⟩))
    have h3 : ¬ j = i := fun q => hi q.symm
    simp only [rtr_cat, Bool.and_eq_true, Bool.not_eq_true', beq_eq_false_iff_ne, ne_eq, h3, not_false_eq_true, true_and, Bool.and_eq_false_iff]
    by_cases h4 : j + 1 = i
    · exact Or.inr (fun q => h2 ⟨h4, q⟩)
    · exact Or.inl h4
theorem rL_set2 {γ : rG} {M : rM} {L : List (Option Value)} {i : Nat} {v : Value} {ls' : Array Slot} (h : lv_has ls' (mL M) ((i, rtr γ v) :: (rlv γ L).filter (fun q => !(q.1 == i) && (!(q.1 == i + 1) && !(q.1 + 1 == i && q.2.category == 2))))) : rL γ M (rset2 L i v) ls' := by
  refine ⟨h.1, h.2.1, fun j u hj => ?_⟩
  by_cases hi : i = j
  · subst hi
    have e : u = v := by
      unfold rset2 at hj
      rw [List.getElem?_set] at hj
      simp at hj
      exact hj.2.symm
    subst e
    exact h.2.2 _ List.mem_cons_self
  · unfold rset2 at hj
    rw [List.getElem?_set_ne hi] at hj
    by_cases hi2 : i + 1 = j
    · subst hi2
      simp [List.getElem?_set] at hj
    · rw [List.getElem?_set_ne hi2] at hj
      obtain ⟨h1, h2⟩ := rkill_at hj
      refine h.2.2 (j, rtr γ u) (List.mem_cons_of_mem _ (List.mem_filter.mpr ⟨rlv_mem h1, ?_⟩))
      have h3 : ¬ j = i := fun q => hi q.symm
      have h5 : ¬ j = i + 1 := fun q => hi2 q.symm
      simp only [rtr_cat, Bool.and_eq_true, Bool.not_eq_true', beq_eq_false_iff_ne, ne_eq, h3, h5, not_false_eq_true, true_and, Bool.and_eq_false_iff]
      by_cases h4 : j + 1 = i
      · exact Or.inr (fun q => h2 ⟨h4, q⟩)
      · exact Or.inl h4
/-- fewer known locals -/
theorem rV.less {L' : List (Option Value)} (hs : ∀ (i : Nat) (v : Value), L'[i]? = some (some v) → L[i]? = some (some v)) (kk : rV γ l M k n pc L' st h hf r) : rV γ l M k n pc L st h hf r :=
  fun p e s m args below meth c H locs ls hC hL hH hS => kk p e s m args below meth c H locs ls hC ⟨hL.1, hL.2.1, fun i v hi => hL.2.2 i v (hs i v hi)⟩ hH hS
theorem r_istore_n {i : Fin 4} {x : Int32} {L' : List (Option Value)} (d : decode (mB M) pc = .ok (.istore_n i, 1)) (hn : (i : Nat) < mL M) (hl : rset L (i : Nat) (.int x) = L') (kk : rV γ l M k n (pc + 1) L' st h hf r) : rV γ l M k n pc L (.int x :: st) h hf r := fun p e s m args below meth c H locs ls hC hL hH hS => lv_istore_n hC.1 hC.2.1 d rfl (rlv_has hL) hn rfl (fun ls' hL' => kk p e s m args below meth c H locs ls' hC (hl ▸ rL_set (v := .int x) hL') hH hS)
theorem r_istore {i : Nat} {x : Int32} {L' : List (Option Value)} (d : decode (mB M) pc = .ok (.istore i, 2)) (hn : i < mL M) (hl : rset L i (.int x) = L') (kk : rV γ l M k n (pc + 2) L' st h hf r) : rV γ l M k n pc L (.int x :: st) h hf r := fun p e s m args below meth c H locs ls hC hL hH hS => lv_istore hC.1 hC.2.1 d (rlv_has hL) hn rfl (fun ls' hL' => kk p e s m args below meth c H locs ls' hC (hl ▸ rL_set (v := .int x) hL') hH hS)
theorem r_lstore_n {i : Fin 4} {x : Int64} {L' : List (Option Value)} (d : decode (mB M) pc = .ok (.lstore_n i, 1)) (hn : (i : Nat) + 1 < mL M) (hl : rset2 L (i : Nat) (.long x) = L') (kk : rV γ l M k n (pc + 1) L' st h hf r) : rV γ l M k n pc L (.long x :: st) h hf r := fun p e s m args below meth c H locs ls hC hL hH hS => lv_lstore_n hC.1 hC.2.1 d rfl (rlv_has hL) hn rfl (fun ls' hL' => kk p e s m args below meth c H locs ls' hC (hl ▸ rL_set2 (v := .long x) hL') hH hS)
theorem r_lstore {i : Nat} {x : Int64} {L' : List (Option Value)} (d : decode (mB M) pc = .ok (.lstore i, 2)) (hn : i + 1 < mL M) (hl : rset2 L i (.long x) = L') (kk : rV γ l M k n (pc + 2) L' st h hf r) : rV γ l M k n pc L (.long x :: st) h hf r := fun p e s m args below meth c H locs ls hC hL hH hS => lv_lstore hC.1 hC.2.1 d (rlv_has hL) hn rfl (fun ls' hL' => kk p e s m args below meth c H locs ls' hC (hl ▸ rL_set2 (v := .long x) hL') hH hS)
theorem r_astore_n {i : Fin 4} {x : Nat} {L' : List (Option Value)} (d : decode (mB M) pc = .ok (.astore_n i, 1)) (hn : (i : Nat) < mL M) (hl : rset L (i : Nat) (.ref x) = L') (kk : rV γ l M k n (pc + 1) L' st h hf r) : rV γ l M k n pc L (.ref x :: st) h hf r := fun p e s m args below meth c H locs ls hC hL hH hS => lv_astore_n hC.1 hC.2.1 d rfl (rlv_has hL) hn rfl (fun ls' hL' => kk p e s m args below meth c H locs ls' hC (hl ▸ rL_set (v := .ref x) hL') hH hS)
theorem r_astore {i : Nat} {x : Nat} {L' : List (Option Value)} (d : decode (mB M) pc = .ok (.astore i, 2)) (hn : i < mL M) (hl : rset L i (.ref x) = L') (kk : rV γ l M k n (pc + 2) L' st h hf r) : rV γ l M k n pc L (.ref x :: st) h hf r := fun p e s m args below meth c H locs ls hC hL hH hS => lv_astore hC.1 hC.2.1 d (rlv_has hL) hn rfl (fun ls' hL' => kk p e s m args below meth c H locs ls' hC (hl ▸ rL_set (v := .ref x) hL') hH hS)
theorem r_astore_nO {i : Fin 4} {x : UInt32} {L' : List (Option Value)} (d : decode (mB M) pc = .ok (.astore_n i, 1)) (hn : (i : Nat) < mL M) (hl : rset L (i : Nat) (.float x) = L') (kk : rV γ l M k n (pc + 1) L' st h hf r) : rV γ l M k n pc L (.float x :: st) h hf r := fun p e s m args below meth c H locs ls hC hL hH hS => lv_astore_n hC.1 hC.2.1 d rfl (rlv_has hL) hn rfl (fun ls' hL' => kk p e s m args below meth c H locs ls' hC (hl ▸ rL_set (v := .float x) hL') hH hS)
theorem r_astoreO {i : Nat} {x : UInt32} {L' : List (Option Value)} (d : decode (mB M) pc = .ok (.astore i, 2)) (hn : i < mL M) (hl : rset L i (.float x) = L') (kk : rV γ l M k n (pc + 2) L' st h hf r) : rV γ l M k n pc L (.float x :: st) h hf r := fun p e s m args below meth c H locs ls hC hL hH hS => lv_astore hC.1 hC.2.1 d (rlv_has hL) hn rfl (fun ls' hL' => kk p e s m args below meth c H locs ls' hC (hl ▸ rL_set (v := .float x) hL') hH hS)
theorem r_iinc {i : Nat} {z : Int} {x v : Int32} {L' : List (Option Value)} (d : decode (mB M) pc = .ok (.iinc i z, 3)) (hx : L[i]? = some (some (.int x))) (hv : x + Int32.ofInt z = v) (hn : i < mL M) (hl : rset L i (.int v) = L') (kk : rV γ l M k n (pc + 3) L' st h hf r) : rV γ l M k n pc L st h hf r := fun p e s m args below meth c H locs ls hC hL hH hS => by
  obtain ⟨j, hj⟩ := List.getElem?_of_mem (rlv_mem (γ := γ) hx)
  exact lv_iinc (k := j) hC.1 hC.2.1 d (rlv_has hL) hj hv hn rfl (fun ls' hL' => kk p e s m args below meth c H locs ls' hC (hl ▸ rL_set (v := .int v) hL') hH hS)
theorem r_iadd {x y : Int32} (d : decode (mB M) pc = .ok (.iadd, 1))  (kk : rV γ l M k n (pc + 1) L (.int (x + y) :: st) h hf r) : rV γ l M k n pc L (.int y :: .int x :: st) h hf r := fun p e s m args below meth c H locs ls hC hL hH hS => lv_iadd hC.1 hC.2.1 d  (kk p e s m args below meth c H locs ls hC hL hH hS)
theorem r_isub {x y : Int32} (d : decode (mB M) pc = .ok (.isub, 1))  (kk : rV γ l M k n (pc + 1) L (.int (x - y) :: st) h hf r) : rV γ l M k n pc L (.int y :: .int x :: st) h hf r := fun p e s m args below meth c H locs ls hC hL hH hS => lv_isub hC.1 hC.2.1 d  (kk p e s m args below meth c H locs ls hC hL hH hS)
theorem r_imul {x y : Int32} (d : decode (mB M) pc = .ok (.imul, 1))  (kk : rV γ l M k n (pc + 1) L (.int (x * y) :: st) h hf r) : rV γ l M k n pc L (.int y :: .int x :: st) h hf r := fun p e s m args below meth c H locs ls hC hL hH hS => lv_imul hC.1 hC.2.1 d  (kk p e s m args below meth c H locs ls hC hL hH hS)
theorem r_iand {x y : Int32} (d : decode (mB M) pc = .ok (.iand, 1))  (kk : rV γ l M k n (pc + 1) L (.int (x &&& y) :: st) h hf r) : rV γ l M k n pc L (.int y :: .int x :: st) h hf r := fun p e s m args below meth c H locs ls hC hL hH hS => lv_iand hC.1 hC.2.1 d  (kk p e s m args below meth c H locs ls hC hL hH hS)
theorem r_ior {x y : Int32} (d : decode (mB M) pc = .ok (.ior, 1))  (kk : rV γ l M k n (pc + 1) L (.int (x ||| y) :: st) h hf r) : rV γ l M k n pc L (.int y :: .int x :: st) h hf r := fun p e s m args below meth c H locs ls hC hL hH hS => lv_ior hC.1 hC.2.1 d  (kk p e s m args below meth c H locs ls hC hL hH hS)
theorem r_ixor {x y : Int32} (d : decode (mB M) pc = .ok (.ixor, 1))  (kk : rV γ l M k n (pc + 1) L (.int (x ^^^ y) :: st) h hf r) : rV γ l M k n pc L (.int y :: .int x :: st) h hf r := fun p e s m args below meth c H locs ls hC hL hH hS => lv_ixor hC.1 hC.2.1 d  (kk p e s m args below meth c H locs ls hC hL hH hS)
theorem r_ishl {x y : Int32} (d : decode (mB M) pc = .ok (.ishl, 1))  (kk : rV γ l M k n (pc + 1) L (.int (x <<< (y &&& 31)) :: st) h hf r) : rV γ l M k n pc L (.int y :: .int x :: st) h hf r := fun p e s m args below meth c H locs ls hC hL hH hS => lv_ishl hC.1 hC.2.1 d  (kk p e s m args below meth c H locs ls hC hL hH hS)
theorem r_ishr {x y : Int32} (d : decode (mB M) pc = .ok (.ishr, 1))  (kk : rV γ l M k n (pc + 1) L (.int (x >>> (y &&& 31)) :: st) h hf r) : rV γ l M k n pc L (.int y :: .int x :: st) h hf r := fun p e s m args below meth c H locs ls hC hL hH hS => lv_ishr hC.1 hC.2.1 d  (kk p e s m args below meth c H locs ls hC hL hH hS)
theorem r_idiv {x y : Int32} (d : decode (mB M) pc = .ok (.idiv, 1)) (hne : ¬ y = 0) (kk : rV γ l M k n (pc + 1) L (.int (x / y) :: st) h hf r) : rV γ l M k n pc L (.int y :: .int x :: st) h hf r := fun p e s m args below meth c H locs ls hC hL hH hS => lv_idiv hC.1 hC.2.1 d hne (kk p e s m args below meth c H locs ls hC hL hH hS)
theorem r_irem {x y : Int32} (d : decode (mB M) pc = .ok (.irem, 1)) (hne : ¬ y = 0) (kk : rV γ l M k n (pc + 1) L (.int (x - x / y * y) :: st) h hf r) : rV γ l M k n pc L (.int y :: .int x :: st) h hf r := fun p e s m args below meth c H locs ls hC hL hH hS => lv_irem hC.1 hC.2.1 d hne (kk p e s m args below meth c H locs ls hC hL hH hS)
theorem r_ineg {x : Int32} (d : decode (mB M) pc = .ok (.ineg, 1))  (kk : rV γ l M k n (pc + 1) L (.int (-x) :: st) h hf r) : rV γ l M k n pc L (.int x :: st) h hf r := fun p e s m args below meth c H locs ls hC hL hH hS => lv_ineg hC.1 hC.2.1 d  (kk p e s m args below meth c H locs ls hC hL hH hS)
theorem r_ladd {x y : Int64} (d : decode (mB M) pc = .ok (.ladd, 1))  (kk : rV γ l M k n (pc + 1) L (.long (x + y) :: st) h hf r) : rV γ l M k n pc L (.long y :: .long x :: st) h hf r := fun p e s m args below meth c H locs ls hC hL hH hS => lv_ladd hC.1 hC.2.1 d  (kk p e s m args below meth c H locs ls hC hL hH hS)
theorem r_lmul {x y : Int64} (d : decode (mB M) pc = .ok (.lmul, 1))  (kk : rV γ l M k n (pc + 1) L (.long (x * y) :: st) h hf r) : rV γ l M k n pc L (.long y :: .long x :: st) h hf r := fun p e s m args below meth c H locs ls hC hL hH hS => lv_lmul hC.1 hC.2.1 d  (kk p e s m args below meth c H locs ls hC hL hH hS)
theorem r_land {x y : Int64} (d : decode (mB M) pc = .ok (.land, 1))  (kk : rV γ l M k n (pc + 1) L (.long (x &&& y) :: st) h hf r) : rV γ l M k n pc L (.long y :: .long x :: st) h hf r := fun p e s m args below meth c H locs ls hC hL hH hS => lv_land hC.1 hC.2.1 d  (kk p e s m args below meth c H locs ls hC hL hH hS)
theorem r_lor {x y : Int64} (d : decode (mB M) pc = .ok (.lor, 1))  (kk : rV γ l M k n (pc + 1) L (.long (x ||| y) :: st) h hf r) : rV γ l M k n pc L (.long y :: .long x :: st) h hf r := fun p e s m args below meth c H locs ls hC hL hH hS => lv_lor hC.1 hC.2.1 d  (kk p e s m args below meth c H locs ls hC hL hH hS)
theorem r_i2l {x : Int32} (d : decode (mB M) pc = .ok (.i2l, 1))  (kk : rV γ l M k n (pc + 1) L (.long (x.toInt64) :: st) h hf r) : rV γ l M k n pc L (.int x :: st) h hf r := fun p e s m args below meth c H locs ls hC hL hH hS => lv_i2l hC.1 hC.2.1 d rfl (kk p e s m args below meth c H locs ls hC hL hH hS)
theorem r_l2i {x : Int64} (d : decode (mB M) pc = .ok (.l2i, 1))  (kk : rV γ l M k n (pc + 1) L (.int (x.toInt32) :: st) h hf r) : rV γ l M k n pc L (.long x :: st) h hf r := fun p e s m args below meth c H locs ls hC hL hH hS => lv_l2i hC.1 hC.2.1 d rfl (kk p e s m args below meth c H locs ls hC hL hH hS)
theorem r_i2b {x : Int32} (d : decode (mB M) pc = .ok (.i2b, 1))  (kk : rV γ l M k n (pc + 1) L (.int (x.toInt8.toInt32) :: st) h hf r) : rV γ l M k n pc L (.int x :: st) h hf r := fun p e s m args below meth c H locs ls hC hL hH hS => lv_i2b hC.1 hC.2.1 d rfl (kk p e s m args below meth c H locs ls hC hL hH hS)
theorem r_i2c {x : Int32} (d : decode (mB M) pc = .ok (.i2c, 1))  (kk : rV γ l M k n (pc + 1) L (.int ((x.toUInt32 % 65536).toInt32) :: st) h hf r) : rV γ l M k n pc L (.int x :: st) h hf r := fun p e s m args below meth c H locs ls hC hL hH hS => lv_i2c hC.1 hC.2.1 d rfl (kk p e s m args below meth c H locs ls hC hL hH hS)
theorem r_iushr {x y : Int32} (d : decode (mB M) pc = .ok (.iushr, 1))  (kk : rV γ l M k n (pc + 1) L (.int ((x.toUInt32 >>> (y.toUInt32 &&& Int32.toUInt32 31)).toInt32) :: st) h hf r) : rV γ l M k n pc L (.int y :: .int x :: st) h hf r := fun p e s m args below meth c H locs ls hC hL hH hS => lv_iushr hC.1 hC.2.1 d rfl (kk p e s m args below meth c H locs ls hC hL hH hS)
theorem r_lushr {x : Int64} {y : Int32} (d : decode (mB M) pc = .ok (.lushr, 1))  (kk : rV γ l M k n (pc + 1) L (.long ((x.toUInt64 >>> (y.toInt64.toUInt64 &&& Int64.toUInt64 63)).toInt64) :: st) h hf r) : rV γ l M k n pc L (.int y :: .long x :: st) h hf r := fun p e s m args below meth c H locs ls hC hL hH hS => lv_lushr hC.1 hC.2.1 d rfl (kk p e s m args below meth c H locs ls hC hL hH hS)
theorem r_lshl {x : Int64} {y : Int32} (d : decode (mB M) pc = .ok (.lshl, 1))  (kk : rV γ l M k n (pc + 1) L (.long (x <<< (y.toInt64 &&& 63)) :: st) h hf r) : rV γ l M k n pc L (.int y :: .long x :: st) h hf r := fun p e s m args below meth c H locs ls hC hL hH hS => lv_lshl hC.1 hC.2.1 d rfl (kk p e s m args below meth c H locs ls hC hL hH hS)
theorem r_lshr {x : Int64} {y : Int32} (d : decode (mB M) pc = .ok (.lshr, 1))  (kk : rV γ l M k n (pc + 1) L (.long (x >>> (y.toInt64 &&& 63)) :: st) h hf r) : rV γ l M k n pc L (.int y :: .long x :: st) h hf r := fun p e s m args below meth c H locs ls hC hL hH hS => lv_lshr hC.1 hC.2.1 d rfl (kk p e s m args below meth c H locs ls hC hL hH hS)
theorem r_lcmp {x y : Int64} (d : decode (mB M) pc = .ok (.lcmp, 1))  (kk : rV γ l M k n (pc + 1) L (.int (lg_cmp x y) :: st) h hf r) : rV γ l M k n pc L (.long y :: .long x :: st) h hf r := fun p e s m args below meth c H locs ls hC hL hH hS => W.lcmp hC.1 hC.2.1 d  (kk p e s m args below meth c H locs ls hC hL hH hS)
theorem r_dup {v : Value} (d : decode (mB M) pc = .ok (.dup, 1)) (hv : v.category = 1) (kk : rV γ l M k n (pc + 1) L (v :: v :: st) h hf r) : rV γ l M k n pc L (v :: st) h hf r := fun p e s m args below meth c H locs ls hC hL hH hS => lv_dup hC.1 hC.2.1 d ((rtr_cat γ v).trans hv) (kk p e s m args below meth c H locs ls hC hL hH hS)
theorem r_pop {v : Value} (d : decode (mB M) pc = .ok (.pop, 1)) (hv : v.category = 1) (kk : rV γ l M k n (pc + 1) L st h hf r) : rV γ l M k n pc L (v :: st) h hf r := fun p e s m args below meth c H locs ls hC hL hH hS => lv_pop hC.1 hC.2.1 d ((rtr_cat γ v).trans hv) (kk p e s m args below meth c H locs ls hC hL hH hS)
theorem r_dup2 {v u : Value} (d : decode (mB M) pc = .ok (.dup2, 1)) (hv : v.category = 1) (hu : u.category = 1) (kk : rV γ l M k n (pc + 1) L (v :: u :: v :: u :: st) h hf r) : rV γ l M k n pc L (v :: u :: st) h hf r := fun p e s m args below meth c H locs ls hC hL hH hS => lv_dup2_11 hC.1 hC.2.1 d ((rtr_cat γ v).trans hv) ((rtr_cat γ u).trans hu) (kk p e s m args below meth c H locs ls hC hL hH hS)
theorem r_if_eq {x : Int32} {off : Int} {tgt : Nat} (d : decode (mB M) pc = .ok (.ifCond .eq off, 3)) (ht : (pc : Int) + off = (tgt : Int)) (kt : x = 0 → rV γ l M k n tgt L st h hf r) (kf : ¬ x = 0 → rV γ l M k n (pc + 3) L st h hf r) : rV γ l M k n pc L (.int x :: st) h hf r := fun p e s m args below meth c H locs ls hC hL hH hS => lv_if_eq hC.1 hC.2.1 d ht (fun q => kt q p e s m args below meth c H locs ls hC hL hH hS) (fun q => kf q p e s m args below meth c H locs ls hC hL hH hS)
theorem r_icmp_eq {x y : Int32} {off : Int} {tgt : Nat} (d : decode (mB M) pc = .ok (.if_icmp .eq off, 3)) (ht : (pc : Int) + off = (tgt : Int)) (kt : x = y → rV γ l M k n tgt L st h hf r) (kf : ¬ x = y → rV γ l M k n (pc + 3) L st h hf r) : rV γ l M k n pc L (.int y :: .int x :: st) h hf r := fun p e s m args below meth c H locs ls hC hL hH hS => lv_icmp_eq hC.1 hC.2.1 d ht (fun q => kt q p e s m args below meth c H locs ls hC hL hH hS) (fun q => kf q p e s m args below meth c H locs ls hC hL hH hS)
theorem r_if_ne {x : Int32} {off : Int} {tgt : Nat} (d : decode (mB M) pc = .ok (.ifCond .ne off, 3)) (ht : (pc : Int) + off = (tgt : Int)) (kt : ¬ x = 0 → rV γ l M k n tgt L st h hf r) (kf : x = 0 → rV γ l M k n (pc + 3) L st h hf r) : rV γ l M k n pc L (.int x :: st) h hf r := fun p e s m args below meth c H locs ls hC hL hH hS => lv_if_ne hC.1 hC.2.1 d ht (fun q => kt q p e s m args below meth c H locs ls hC hL hH hS) (fun q => kf q p e s m args below meth c H locs ls hC hL hH hS)
theorem r_icmp_ne {x y : Int32} {off : Int} {tgt : Nat} (d : decode (mB M) pc = .ok (.if_icmp .ne off, 3)) (ht : (pc : Int) + off = (tgt : Int)) (kt : ¬ x = y → rV γ l M k n tgt L st h hf r) (kf : x = y → rV γ l M k n (pc + 3) L st h hf r) : rV γ l M k n pc L (.int y :: .int x :: st) h hf r := fun p e s m args below meth c H locs ls hC hL hH hS => lv_icmp_ne hC.1 hC.2.1 d ht (fun q => kt q p e s m args below meth c H locs ls hC hL hH hS) (fun q => kf q p e s m args below meth c H locs ls hC hL hH hS)
theorem r_if_lt {x : Int32} {off : Int} {tgt : Nat} (d : decode (mB M) pc = .ok (.ifCond .lt off, 3)) (ht : (pc : Int) + off = (tgt : Int)) (kt : x < 0 → rV γ l M k n tgt L st h hf r) (kf : ¬ x < 0 → rV γ l M k n (pc + 3) L st h hf r) : rV γ l M k n pc L (.int x :: st) h hf r := fun p e s m args below meth c H locs ls hC hL hH hS => lv_if_lt hC.1 hC.2.1 d ht (fun q => kt q p e s m args below meth c H locs ls hC hL hH hS) (fun q => kf q p e s m args below meth c H locs ls hC hL hH hS)
theorem r_icmp_lt {x y : Int32} {off : Int} {tgt : Nat} (d : decode (mB M) pc = .ok (.if_icmp .lt off, 3)) (ht : (pc : Int) + off = (tgt : Int)) (kt : x < y → rV γ l M k n tgt L st h hf r) (kf : ¬ x < y → rV γ l M k n (pc + 3) L st h hf r) : rV γ l M k n pc L (.int y :: .int x :: st) h hf r := fun p e s m args below meth c H locs ls hC hL hH hS => lv_icmp_lt hC.1 hC.2.1 d ht (fun q => kt q p e s m args below meth c H locs ls hC hL hH hS) (fun q => kf q p e s m args below meth c H locs ls hC hL hH hS)
theorem r_if_ge {x : Int32} {off : Int} {tgt : Nat} (d : decode (mB M) pc = .ok (.ifCond .ge off, 3)) (ht : (pc : Int) + off = (tgt : Int)) (kt : 0 ≤ x → rV γ l M k n tgt L st h hf r) (kf : ¬ 0 ≤ x → rV γ l M k n (pc + 3) L st h hf r) : rV γ l M k n pc L (.int x :: st) h hf r := fun p e s m args below meth c H locs ls hC hL hH hS => lv_if_ge hC.1 hC.2.1 d ht (fun q => kt q p e s m args below meth c H locs ls hC hL hH hS) (fun q => kf q p e s m args below meth c H locs ls hC hL hH hS)
theorem r_icmp_ge {x y : Int32} {off : Int} {tgt : Nat} (d : decode (mB M) pc = .ok (.if_icmp .ge off, 3)) (ht : (pc : Int) + off = (tgt : Int)) (kt : y ≤ x → rV γ l M k n tgt L st h hf r) (kf : ¬ y ≤ x → rV γ l M k n (pc + 3) L st h hf r) : rV γ l M k n pc L (.int y :: .int x :: st) h hf r := fun p e s m args below meth c H locs ls hC hL hH hS => lv_icmp_ge hC.1 hC.2.1 d ht (fun q => kt q p e s m args below meth c H locs ls hC hL hH hS) (fun q => kf q p e s m args below meth c H locs ls hC hL hH hS)
theorem r_if_gt {x : Int32} {off : Int} {tgt : Nat} (d : decode (mB M) pc = .ok (.ifCond .gt off, 3)) (ht : (pc : Int) + off = (tgt : Int)) (kt : 0 < x → rV γ l M k n tgt L st h hf r) (kf : ¬ 0 < x → rV γ l M k n (pc + 3) L st h hf r) : rV γ l M k n pc L (.int x :: st) h hf r := fun p e s m args below meth c H locs ls hC hL hH hS => lv_if_gt hC.1 hC.2.1 d ht (fun q => kt q p e s m args below meth c H locs ls hC hL hH hS) (fun q => kf q p e s m args below meth c H locs ls hC hL hH hS)
theorem r_icmp_gt {x y : Int32} {off : Int} {tgt : Nat} (d : decode (mB M) pc = .ok (.if_icmp .gt off, 3)) (ht : (pc : Int) + off = (tgt : Int)) (kt : y < x → rV γ l M k n tgt L st h hf r) (kf : ¬ y < x → rV γ l M k n (pc + 3) L st h hf r) : rV γ l M k n pc L (.int y :: .int x :: st) h hf r := fun p e s m args below meth c H locs ls hC hL hH hS => lv_icmp_gt hC.1 hC.2.1 d ht (fun q => kt q p e s m args below meth c H locs ls hC hL hH hS) (fun q => kf q p e s m args below meth c H locs ls hC hL hH hS)
theorem r_if_le {x : Int32} {off : Int} {tgt : Nat} (d : decode (mB M) pc = .ok (.ifCond .le off, 3)) (ht : (pc : Int) + off = (tgt : Int)) (kt : x ≤ 0 → rV γ l M k n tgt L st h hf r) (kf : ¬ x ≤ 0 → rV γ l M k n (pc + 3) L st h hf r) : rV γ l M k n pc L (.int x :: st) h hf r := fun p e s m args below meth c H locs ls hC hL hH hS => lv_if_le hC.1 hC.2.1 d ht (fun q => kt q p e s m args below meth c H locs ls hC hL hH hS) (fun q => kf q p e s m args below meth c H locs ls hC hL hH hS)
theorem r_icmp_le {x y : Int32} {off : Int} {tgt : Nat} (d : decode (mB M) pc = .ok (.if_icmp .le off, 3)) (ht : (pc : Int) + off = (tgt : Int)) (kt : x ≤ y → rV γ l M k n tgt L st h hf r) (kf : ¬ x ≤ y → rV γ l M k n (pc + 3) L st h hf r) : rV γ l M k n pc L (.int y :: .int x :: st) h hf r := fun p e s m args below meth c H locs ls hC hL hH hS => lv_icmp_le hC.1 hC.2.1 d ht (fun q => kt q p e s m args below meth c H locs ls hC hL hH hS) (fun q => kf q p e s m args below meth c H locs ls hC hL hH hS)
theorem r_goto {off : Int} {tgt : Nat} (d : decode (mB M) pc = .ok (.goto off, 3)) (ht : (pc : Int) + off = (tgt : Int)) (kk : rV γ l M k n tgt L st h hf r) : rV γ l M k n pc L st h hf r := fun p e s m args below meth c H locs ls hC hL hH hS => lv_goto hC.1 hC.2.1 d ht (kk p e s m args below meth c H locs ls hC hL hH hS)
theorem r_tableIn {dflt lo hi : Int} {offs : Array Int} {len : Nat} {x : Int32} {off : Int} {tgt : Nat} (d : decode (mB M) pc = .ok (.tableswitch dflt lo hi offs, len)) (h1 : ¬ x.toInt < lo) (h2 : ¬ hi < x.toInt) (ho : offs[(x.toInt - lo).toNat]? = some off) (ht : (pc : Int) + off = (tgt : Int)) (kk : rV γ l M k n tgt L st h hf r) : rV γ l M k n pc L (.int x :: st) h hf r := fun p e s m args below meth c H locs ls hC hL hH hS => lv_tableIn hC.1 hC.2.1 d h1 h2 ho ht (kk p e s m args below meth c H locs ls hC hL hH hS)
theorem r_tableOut {dflt lo hi : Int} {offs : Array Int} {len : Nat} {x : Int32} {tgt : Nat} (d : decode (mB M) pc = .ok (.tableswitch dflt lo hi offs, len)) (h1 : x.toInt < lo ∨ hi < x.toInt) (ht : (pc : Int) + dflt = (tgt : Int)) (kk : rV γ l M k n tgt L st h hf r) : rV γ l M k n pc L (.int x :: st) h hf r := fun p e s m args below meth c H locs ls hC hL hH hS => lv_tableOut hC.1 hC.2.1 d h1 ht (kk p e s m args below meth c H locs ls hC hL hH hS)
theorem r_ldc {idx : Nat} {v : Int32} (d : decode (mB M) pc = .ok (.ldc idx, 2)) (hw : Cond.constant (mOwn M) idx v ∈ rTbl) (kk : rV γ l M k n (pc + 2) L (.int v :: st) h hf r) : rV γ l M k n pc L st h hf r := fun p e s m args below meth c H locs ls hC hL hH hS => lv_ldc hC.1 hC.2.1 hC.2.2.2.2.1 (hC.2.2.2.2.2.1 _ hw) d (kk p e s m args below meth c H locs ls hC hL hH hS)
theorem r_ldcw {idx : Nat} {v : Int32} (d : decode (mB M) pc = .ok (.ldc_w idx, 3)) (hw : Cond.constant (mOwn M) idx v ∈ rTbl) (kk : rV γ l M k n (pc + 3) L (.int v :: st) h hf r) : rV γ l M k n pc L st h hf r := fun p e s m args below meth c H locs ls hC hL hH hS => lv_ldcw hC.1 hC.2.1 hC.2.2.2.2.1 (hC.2.2.2.2.2.1 _ hw) d (kk p e s m args below meth c H locs ls hC hL hH hS)
theorem r_ldc2 {idx : Nat} {v : Int64} (d : decode (mB M) pc = .ok (.ldc2_w idx, 3)) (hw : Cond.constantLong (mOwn M) idx v ∈ rTbl) (kk : rV γ l M k n (pc + 3) L (.long v :: st) h hf r) : rV γ l M k n pc L st h hf r := fun p e s m args below meth c H locs ls hC hL hH hS => lv_ldc2 hC.1 hC.2.1 hC.2.2.2.2.1 (hC.2.2.2.2.2.1 _ hw) d (kk p e s m args below meth c H locs ls hC hL hH hS)
theorem r_ireturn {v : Int32} (d : decode (mB M) pc = .ok (.ireturn, 1)) (hr : mR M = some .int) (hk : k = mC M) (hn : n = mS M) : rV γ l M k n pc L [.int v] h h (some (.int v)) := fun p e s m args below meth c H locs ls hC hL hH hS => by
  subst hk; subst hn
  exact W.iret hC.1 hC.2.1 (hC.2.2.1.trans hr) (fun t ht _ => ⟨rfl, by rw [ht]; exact hH, hS.F ht⟩) (fun q hq => hS.2.2 q hq) d hC.2.2.2.2.2.2.1
theorem r_zreturn {v : Int32} {ty : FieldType} (d : decode (mB M) pc = .ok (.ireturn, 1)) (hr : mR M = some ty) (hv : narrow ty (.int v) = .int v) (hk : k = mC M) (hn : n = mS M) : rV γ l M k n pc L [.int v] h h (some (.int v)) := fun p e s m args below meth c H locs ls hC hL hH hS => by
  subst hk; subst hn
  exact W.zret hC.1 hC.2.1 (hC.2.2.1.trans hr) hv (fun t ht _ => ⟨rfl, by rw [ht]; exact hH, hS.F ht⟩) (fun q hq => hS.2.2 q hq) d hC.2.2.2.2.2.2.1
theorem r_lreturn {v : Int64} (d : decode (mB M) pc = .ok (.lreturn, 1)) (hr : mR M = some .long) (hk : k = mC M) (hn : n = mS M) : rV γ l M k n pc L [.long v] h h (some (.long v)) := fun p e s m args below meth c H locs ls hC hL hH hS => by
  subst hk; subst hn
  exact W.lret hC.1 hC.2.1 (hC.2.2.1.trans hr) (fun t ht _ => ⟨rfl, by rw [ht]; exact hH, hS.F ht⟩) (fun q hq => hS.2.2 q hq) d hC.2.2.2.2.2.2.1
theorem r_areturn {v : Nat} {nm : String} (d : decode (mB M) pc = .ok (.areturn, 1)) (hr : mR M = some (.object nm)) (hk : k = mC M) (hn : n = mS M) : rV γ l M k n pc L [.ref v] h h (some (.ref v)) := fun p e s m args below meth c H locs ls hC hL hH hS => by
  subst hk; subst hn
  exact W.aret hC.1 hC.2.1 (hC.2.2.1.trans hr) (Or.inl ⟨_, rfl⟩) (Or.inr ⟨_, rfl⟩) (fun t ht _ => ⟨rfl, by rw [ht]; exact hH, hS.F ht⟩) (fun q hq => hS.2.2 q hq) d hC.2.2.2.2.2.2.1
theorem r_return (d : decode (mB M) pc = .ok (.return_, 1)) (hr : mR M = none) (hk : k = mC M) (hn : n = mS M) : rV γ l M k n pc L [] h h none := fun p e s m args below meth c H locs ls hC hL hH hS => by
  subst hk; subst hn
  exact W.vret hC.1 hC.2.1 (hC.2.2.1.trans hr) (fun t ht _ => ⟨rfl, by rw [ht]; exact hH, hS.F ht⟩) (fun q hq => hS.2.2 q hq) d hC.2.2.2.2.2.2.1
end RR
