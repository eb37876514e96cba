/-! ===== the reflected heap ===== -/
abbrev rG : Type := va_G × (Nat → ClassId) × Nat × (Nat → Nat) × Nat × (Nat → Int32)
abbrev rHeap : Type := (Nat × (Nat → Nat) × (Nat → Nat)) × (Nat → Nat → Int32) × (Nat → Nat → Int64) × (Nat → Nat → Option Nat)
/-- own class, name, bytes, locals, answer's type, level, new cells, new slots -/
abbrev rM : Type := String × MethodName × ByteArray × Nat × Option FieldType × Nat × Nat × Nat
abbrev mOwn (M : rM) : String := M.1
abbrev mY (M : rM) : MethodName := M.2.1
abbrev mB (M : rM) : ByteArray := M.2.2.1
abbrev mL (M : rM) : Nat := M.2.2.2.1
abbrev mR (M : rM) : Option FieldType := M.2.2.2.2.1
abbrev mV (M : rM) : Nat := M.2.2.2.2.2.1
abbrev mC (M : rM) : Nat := M.2.2.2.2.2.2.1
abbrev mS (M : rM) : Nat := M.2.2.2.2.2.2.2
def rRm (M : rM) : Room := { frames := mV M, cells := mC M, slots := mS M, locals := 40 * mV M }
def mWs (M : rM) : List Cond := .code (mY M) (mB M) (mL M) (mR M) :: rTbl
abbrev gD (γ : rG) : va_G := γ.1
abbrev gA (γ : rG) : Nat → ClassId := γ.2.1
abbrev gB (γ : rG) : Nat := γ.2.2.1
abbrev gO (γ : rG) : Nat → Nat := γ.2.2.2.1
abbrev gN (γ : rG) : Nat := γ.2.2.2.2.1
abbrev gX (γ : rG) : Nat → Int32 := γ.2.2.2.2.2
def gF (γ : rG) : Nat → Prop := fun q => gB γ ≤ q
def gT (γ : rG) : List (ClassId × FieldType) := [(gA γ 10, .byte), (gA γ 11, .int), (gA γ 12, .long), (gA γ 13, .boolean), (gA γ 14, .object RX2)]
/-- a reflected value: a cell's number, or (a float's bits) the number of a cell that was there before -/
def rtr (γ : rG) (v : Value) : Value := match v with
  | .ref a => .ref (gB γ + a)
  | .float j => .ref (gO γ j.toNat)
  | w => w
def rad (γ : rG) (x : Option Nat) : Option Nat := x.map (fun a => gB γ + a)
def rfv (γ : rG) (c : Nat) (I : Nat → Int32) (R : Nat → Option Nat) (k : Nat) : Value := if rIsR (rty c k) = true then va_rf (rad γ (R k)) else .int (I k)
def rfs (γ : rG) (c : Nat) (I : Nat → Int32) (R : Nat → Option Nat) : List Value := (List.range (rN c)).map (rfv γ c I R)
def rcl (γ : rG) (kd len : Nat) (I : Nat → Int32) (J : Nat → Int64) (R : Nat → Option Nat) : va_E :=
  if kd < 10 then .inr (kd, rfs γ kd I R)
  else .inl (gA γ kd, len, if kd = 12 then .inr (.inl J) else if kd = 14 then .inr (.inr (.inr (.inr (fun k => rad γ (R k))))) else .inl I)
def rce (γ : rG) (h : rHeap) (a : Nat) : va_E := rcl γ (h.1.2.1 a) (h.1.2.2 a) (h.2.1 a) (h.2.2.1 a) (h.2.2.2 a)
def rws (γ : rG) (h : rHeap) : va_W := (List.range h.1.1).map (fun a => (gB γ + a, rce γ h a))
/-- one place of one cell -/
def up {α : Type} (f : Nat → Nat → α) (a k : Nat) (v : α) : Nat → Nat → α := fun b => if b = a then va_up (f a) k v else f b
theorem up_ne {α : Type} {f : Nat → Nat → α} {a k b : Nat} {v : α} (h : b ≠ a) : up f a k v b = f b := by simp [up, h]
theorem up_eq {α : Type} {f : Nat → Nat → α} {a k : Nat} {v : α} : up f a k v a = va_up (f a) k v := by simp [up]
theorem rws_at (γ : rG) {h : rHeap} {a : Nat} (ha : a < h.1.1) : (rws γ h)[a]? = some (gB γ + a, rce γ h a) := by
  simp [rws, ha]
theorem rws_D (γ : rG) (h : rHeap) : va_D (gF γ) (rws γ h) := by
  refine ⟨fun i j p q hi hj he => ?_, fun k q hk => ?_⟩
  · simp only [rws, List.getElem?_map, Option.map_eq_some_iff] at hi hj
    obtain ⟨x, hx, rfl⟩ := hi
    obtain ⟨y, hy, rfl⟩ := hj
    have h1 := List.getElem?_eq_some_iff.mp hx
    have h2 := List.getElem?_eq_some_iff.mp hy
    obtain ⟨_, h1⟩ := h1
    obtain ⟨_, h2⟩ := h2
    simp at h1 h2 he
    omega
  · simp only [rws, List.getElem?_map, Option.map_eq_some_iff] at hk
    obtain ⟨x, hx, rfl⟩ := hk
    exact Nat.le_add_right _ _
/-- one cell's entry changed -/
theorem rws_set (γ : rG) {h h' : rHeap} {a : Nat} {e : va_E} (hn : h'.1.1 = h.1.1) (he : a < h.1.1 → rce γ h' a = e) (ho : ∀ b, b ≠ a → rce γ h' b = rce γ h b) : (rws γ h).set a (gB γ + a, e) = rws γ h' := by
  apply List.ext_getElem?
  intro j
  simp only [rws, List.getElem?_set, List.getElem?_map, hn]
  by_cases hj : a = j
  · subst hj
    by_cases hl : a < h.1.1
    · simp [hl, he hl]
    · simp [hl]
  · simp only [if_neg hj]
    by_cases hl : j < h.1.1
    · simp [hl, ho j (Ne.symm hj)]
    · simp [hl]
def rRANKS (i : Nat) : Int32 := [0, 1, 2, 3, 3, 3, 3, 4, 4, 5].getD i 0
def rWITH (i : Nat) : Int32 := [-1431655766, -858993460, -252645136, -16711936, -65536].getD i 0
def rWORDS : List Int32 := [104, 97, 114, 109, 32, 32, 32, 32, 99, 117, 116, 32, 32, 32, 32, 32, 116, 114, 105, 99, 107, 32, 32, 32, 112, 101, 101, 112, 32, 32, 32, 32, 111, 112, 101, 110, 115, 32, 32, 32, 100, 111, 117, 98, 116, 32, 32, 32, 105, 102, 32, 32, 32, 32, 32, 32, 97, 110, 100, 32, 32, 32, 32, 32, 111, 114, 32, 32, 32, 32, 32, 32, 107, 105, 110, 100, 32, 32, 32, 32, 108, 97, 121, 101, 114, 115, 32, 32, 99, 111, 108, 117, 109, 110, 32, 32, 110, 117, 109, 98, 101, 114, 32, 32, 98, 101, 108, 111, 119, 32, 32, 32]
def rNest : List (String × Nat × MethodName × String) := [(RX8, 9, yX6_init, RX8), (RX8, 18, yX4_init, RX8), (RX5, 39, yX2_init, RX8), (RX8, 32, yX0_init, RX8), (RX0, 11, yX1_init, RX8), (RX1, 30, yX2_init, RX8), (RX0, 20, yX2_init, RX8), (RX8, 39, yX7_init, RX8), (RX8, 46, yX3_init, RX8), (RX3, 46, yX8_held, RX8)]
/-- what was there before, and stays: two static rows, one text -/
def rRO (γ : rG) (U : State) : Prop :=
  (∀ q ∈ rNest, va_Nw (.methodLinkNest q.1 q.2.1 q.2.2.1 q.2.2.2) U) ∧ va_Z RX4 "RANKS" "[I" (.ref (gO γ 0)) (gF γ) U U.heap ∧ va_T .int (gO γ 0) 10 (fun j => .int (rRANKS j)) (gF γ) U U.heap ∧ va_Z RX0 "WITH" "[I" (.ref (gO γ 1)) (gF γ) U U.heap ∧ va_T .int (gO γ 1) 5 (fun j => .int (rWITH j)) (gF γ) U U.heap
    ∧ va_Z "java/lang/String" "COMPACT_STRINGS" "Z" (.int 1) (gF γ) U U.heap ∧ vk_S 1 [112] [rWORDS] (fun _ => gO γ 2) (fun _ => gO γ 3) (gF γ) U U.heap ∧ vk_R RX6 59 "harm    cut     trick   peep    opens   doubt   if      and     or      kind    layers  column  number  below   " (gO γ 2) U
    ∧ (va_Z "jdk/internal/util/Preconditions" "SIOOBE_FORMATTER" "Ljava/util/function/BiFunction;" (.ref (gO γ 4)) (gF γ) U U.heap ∨ va_Z "jdk/internal/util/Preconditions" "SIOOBE_FORMATTER" "Ljava/util/function/BiFunction;" .null (gF γ) U U.heap) ∧ va_T .int (gO γ 5) (gN γ) (fun j => .int (gX γ j)) (gF γ) U U.heap ∧ va_AO RX2 U
theorem rRO.blind {γ : rG} {U : State} (h : rRO γ U) (g : JFrame) (mk : MethodId) (a : Array Value) : rRO γ (U.calling g mk a) := by
  obtain ⟨h1, h2, h3, h4, h5, h6, h7, h8, h9, h10, h11⟩ := h
  have ha : U.vm.Alike (U.calling g mk a).vm := Vm.Alike.refl U.vm
  exact ⟨fun q hq => va_Nw.same rfl (u := U) rfl (h1 q hq), va_Z.moved (u := U) ha h2, va_T.moved (u := U) ha h3, va_Z.moved (u := U) ha h4, va_T.moved (u := U) ha h5, va_Z.moved (u := U) ha h6, vk_S.moved (u := U) ha h7, vk_R.same (u := U) rfl h8, h9.imp (va_Z.moved (u := U) ha) (va_Z.moved (u := U) ha), va_T.moved (u := U) ha h10, va_AO.moved (u := U) ha h11⟩
theorem rRO.carry {γ : rG} {s U : State} {H : Heap} {locs : List Loc} (h : rRO γ s) (hW : s.WarmedH U.vm) (hU : U.heap = H) (hS : va_S (gF γ) s.heap H locs) : rRO γ U := by
  obtain ⟨h1, h2, h3, h4, h5, h6, h7, h8, h9, h10, h11⟩ := h
  have hk : ∀ a : Nat, a < s.heap.size → ¬ gF γ a → U.heap[a]? = s.heap[a]? := fun a ha hn => by rw [hU]; exact hS.2.1 a ha hn
  have ha := hW.alike
  exact ⟨fun q hq => va_Nw.warmM hW (h1 q hq), (va_Z.moved ha h2).kept hk, (va_T.moved ha h3).kept hk, (va_Z.moved ha h4).kept hk, (va_T.moved ha h5).kept hk, (va_Z.moved ha h6).kept hk, (vk_S.moved ha h7).kept hk, vk_R.warm hW h8, h9.imp (fun q => (va_Z.moved ha q).kept hk) (fun q => (va_Z.moved ha q).kept hk), (va_T.moved ha h10).kept hk, va_AO.moved ha h11⟩
/-! ===== the judgement ===== -/
def rC (γ : rG) (M : rM) (p : Program) (s : State) (m : MethodId) (args : Array Value) (meth : Method) (c : Code) : Prop :=
  p.tables.exec = Jvm.exec ∧ c.code = mB M ∧ meth.sig.returnType = mR M ∧ c.maxLocals = mL M ∧ s.vm.findClass (mOwn M) = some m.cls ∧ (∀ w ∈ rTbl, w.before args s = true) ∧ meth.locks = false ∧ meth.name = (mY M).name ∧ va_K (gD γ) vwCl (gT γ) s ∧ rRO γ s ∧ gB γ ≤ s.heap.size
def rL (γ : rG) (M : rM) (L : List (Option Value)) (ls : Array Slot) : Prop := ls.size = mL M ∧ lv_wf ls ∧ ∀ (i : Nat) (v : Value), L[i]? = some (some v) → ls[i]? = some (.val (rtr γ v))
def rH (γ : rG) (h : rHeap) (H : Heap) : Prop := H.size = gB γ + h.1.1 ∧ va_P (gD γ) vwCl (rws γ h) H
def rQ (γ : rG) (hf : rHeap) (r : Option Value) : Array Value → State → Outcome → State → Prop := fun _ st oc t => oc = .returned (r.map (rtr γ)) ∧ rH γ hf t.heap ∧ va_F (gF γ) st t
def rV (γ : rG) (l : Launch) (M : rM) (k n pc : Nat) (L : List (Option Value)) (st : List Value) (h hf : rHeap) (r : Option Value) : Prop :=
  ∀ (p : Program) (e : Env) (s : State) (m : MethodId) (args : Array Value) (below : List Frame) (meth : Method) (c : Code) (H : Heap) (locs : List Loc) (ls : Array Slot),
    rC γ M p s m args meth c → rL γ M L ls → rH γ h H → va_S (gF γ) s.heap H locs →
    W p l e (rRm M) s m args below meth c H locs k n (MQ below (rQ γ hf r) args s (mC M) (mS M) (gF γ)) (F0 m pc ls (st.map (rtr γ)))
def rPre (γ : rG) (h : rHeap) (U : State) : Prop := rH γ h U.heap ∧ va_K (gD γ) vwCl (gT γ) U ∧ rRO γ U
def rMet (γ : rG) (l : Launch) (M : rM) (as : List Value) (h hf : rHeap) (r : Option Value) : Prop :=
  Met l (mY M) (mWs M) (rRm M) (va_Pc (as.map (rtr γ)) (rPre γ h)) (rQ γ hf r) (mC M) (mS M) (gF γ)
/-- the locals at the entry: a long takes two places -/
def rargs : List Value → List (Option Value)
  | [] => []
  | v :: t => if v.category = 2 then some v :: none :: rargs t else some v :: rargs t
theorem rtr_cat (γ : rG) (v : Value) : (rtr γ v).category = v.category := by cases v <;> rfl
theorem rargs_at (γ : rG) : ∀ (as : List Value) (b i : Nat) (v : Value), (rargs as)[i]? = some (some v) → (b + i, rtr γ v) ∈ lv_args b (as.map (rtr γ)) := by
  intro as
  induction as with
  | nil => intro b i v h; simp [rargs] at h
  | cons a t ih =>
    intro b i v h
    simp only [List.map_cons, lv_args, rtr_cat]
    by_cases hc : a.category = 2
    · simp only [rargs, if_pos hc] at h
      rw [if_pos hc]
      match i, h with
      | 0, h => simp at h; subst h; simp
      | 1, h => simp at h
      | i + 2, h =>
        have := ih (b + 2) i v (by simpa using h)
        rw [show b + (i + 2) = b + 2 + i by omega]
        exact List.mem_cons_of_mem _ this
    · simp only [rargs, if_neg hc] at h
      rw [if_neg hc]
      match i, h with
      | 0, h => simp at h; subst h; simp
      | i + 1, h =>
        have := ih (b + 1) i v (by simpa using h)
        rw [show b + (i + 1) = b + 1 + i by omega]
        exact List.mem_cons_of_mem _ this
theorem rargs_len (as : List Value) : (lg_sl as).length = (rargs as).length := by
  induction as with
  | nil => rfl
  | cons a t ih =>
    simp only [lg_sl, rargs, List.flatMap_cons, List.length_append] at ih ⊢
    split <;> simp [ih] <;> omega
theorem rsl_len (γ : rG) (as : List Value) : (lg_sl (as.map (rtr γ))).length = (lg_sl as).length := by
  induction as with
  | nil => rfl
  | cons a t ih =>
    simp only [lg_sl, List.map_cons, List.flatMap_cons, List.length_append, rtr_cat] at ih ⊢
    split <;> simp [ih]
/-- a method's contract, from its body -/
theorem rMet_of {γ : rG} {l : Launch} {M : rM} {as : List Value} {L : List (Option Value)} {h hf : rHeap} {r : Option Value} (hp : plainName (mY M).cls = true) (ho : mOwn M = (mY M).cls) (hL : ∀ (i : Nat) (v : Value), L[i]? = some (some v) → (rargs as)[i]? = some (some v)) (hn : (rargs as).length ≤ mL M)
    (hv : rV γ l M 0 0 0 L [] h hf r) : rMet γ l M as h hf r := by
  refine Met.ofW (cc := mB M) (maxL := mL M) (ret := mR M) hp rfl ?_
  intro p e s m args below meth c s₁ B hml hpc
  obtain ⟨rfl, hH, hK, hO⟩ := hpc
  have hts := atoms_spec (ws := mWs M) B.pre
  have hown : s.vm.findClass (mOwn M) = some m.cls := by rw [ho]; exact findClass_of_methodNamed B.named
  have hname := (name_of_methodNamed B.named B.method).1
  have hl := lv_entry (as.map (rtr γ)) (n := mL M) (by rw [rsl_len, rargs_len]; exact hn)
  rw [lg_entry_eq]
  exact hv p e s m _ below meth c s.heap [] _ ⟨B.exec, B.bytes, B.returns, hml, hown, fun w hw => hts w (List.mem_cons_of_mem _ hw), B.notSynchronized, hname, hK, hO, by rw [hH.1]; exact Nat.le_add_right _ _⟩ ⟨hl.1, hl.2.1, fun i v hi => hl.2.2 _ (by have := rargs_at γ as 0 i v (hL i v hi); simpa using this)⟩ hH va_S.rf
