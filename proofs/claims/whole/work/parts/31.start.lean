/-! THE CLAIM OUT OF ONE WALK OF THE LAW'S BODY. Your part is whole_start (and what it stands on); all else here is the same for every law, but numbers. -/
def R_law : String := "LockedLetterLaw"
def lw_P (b : Addr) (xs : List Int32) (args : Array Value) (s : State) : Prop := args = #[.ref b] ∧ s.IntsAt b xs ∧ xs.length ≤ 3072 ∧ (Jvm.Cond.and given_1 narrow_1).before args s = true
def lw_Q (_ : Array Value) (s : State) (o : Outcome) (t : State) : Prop := o = .returned (some (.int 1)) ∧ Framed s o t [] 600000 7302250
def lw_Z (below : List Frame) (a : Array Value) (s : State) : State → Prop := fun t => ∃ o, t.status = .running ∧ Ended t below o ∧ lw_Q a s o t
/-- the law's own end, with 1 on the stack, nothing written that was there before, its room as the claim has it -/
theorem lw_ret {p : Program} {l : Launch} {e : Env} {s : State} {m : MethodId} {below : List Frame} {meth : Method} {c : Code} {b : Nat} (hx : p.tables.exec = Jvm.exec) (hb : c.code = code) (hr : meth.sig.returnType = ret) (hlocks : meth.locks = false) {pc : Nat} {H : Heap} {ls : Array Slot} (hdg : decode code pc = .ok (.ireturn, 1)) : W p l e room_1 s m #[Value.ref b] below meth c H [] 600000 7302250 (lw_Z below #[Value.ref b] s) (F0 m pc ls [.int 1]) := by
  intro T hT X
  obtain ⟨fs, hret, hrun, hended, hW, hframe⟩ := X.leave (v := some (.int 1)) (hlocks := hlocks) (fun h => by rw [hr] at h; cases h)
  have hmeth' : T.vm.method? m = some meth := X.method'
  refine ⟨T.setFrames fs, ?_, .returned (some (.int 1)), hrun, hended, rfl, ⟨_, rfl⟩, hW, hframe⟩
  jvm_step X.here [X.here.top, hx, hb, hdg, hmeth', hr, ret, narrow_b1]
  (try refine ⟨rfl, ?_⟩); (try refine ⟨rfl, ?_⟩)
  first | (intro acts; rw [hret _ acts rfl rfl rfl]) | rw [hret _ _ rfl rfl rfl]
  exact Steps.refl _
/-- what holds at the law's entry: the machine, the code, the tables' words (any of lw_tbl by 'hts w (by decide +kernel)'), the script of L ints xs at the cell b, what the Statement gives of the start (any of its parts by flat_of_before) -/
def lw_At (p : Program) (s : State) (m : MethodId) (meth : Method) (c : Code) (b L : Nat) (xs : Nat → Int32) : Prop :=
  p.tables.exec = Jvm.exec ∧ c.code = code ∧ meth.sig.returnType = ret ∧ c.maxLocals = 4 ∧ s.vm.findClass R_law = some m.cls ∧ (∀ w ∈ lw_tbl, w.before #[Value.ref b] s = true) ∧ va_X b L xs s s.heap ∧ b < s.heap.size ∧ meth.locks = false ∧ meth.name = "law" ∧ (Jvm.Cond.and given_1 narrow_1).before #[Value.ref b] s = true
/-! ===== both objects made, then the loop ===== -/
def I00 : Nat → Nat → Int32 := fun _ _ => 0
def J00 : Nat → Nat → Int64 := fun _ _ => 0
def R00 : Nat → Nat → Option Nat := fun _ _ => none
def Ws8 : List (Nat × Nat) := [(8, 0), (6, 0), (10, 2000), (4, 0), (11, 32), (5, 0), (11, 8), (11, 8), (14, 17), (11, 16), (11, 16), (11, 16), (11, 16), (11, 16), (2, 0), (11, 8), (11, 8), (13, 8), (11, 8), (11, 64), (2, 0), (11, 8), (11, 8), (13, 8), (11, 8), (11, 64), (2, 0), (11, 8), (11, 8), (13, 8), (11, 8), (11, 64), (2, 0), (11, 8), (11, 8), (13, 8), (11, 8), (11, 64), (2, 0), (11, 8), (11, 8), (13, 8), (11, 8), (11, 64), (2, 0), (11, 8), (11, 8), (13, 8), (11, 8), (11, 64), (2, 0), (11, 8), (11, 8), (13, 8), (11, 8), (11, 64), (2, 0), (11, 8), (11, 8), (13, 8), (11, 8), (11, 64), (2, 0), (11, 8), (11, 8), (13, 8), (11, 8), (11, 64), (2, 0), (11, 8), (11, 8), (13, 8), (11, 8), (11, 64), (2, 0), (11, 8), (11, 8), (13, 8), (11, 8), (11, 64), (2, 0), (11, 8), (11, 8), (13, 8), (11, 8), (11, 64), (2, 0), (11, 8), (11, 8), (13, 8), (11, 8), (11, 64), (2, 0), (11, 8), (11, 8), (13, 8), (11, 8), (11, 64), (2, 0), (11, 8), (11, 8), (13, 8), (11, 8), (11, 64), (2, 0), (11, 8), (11, 8), (13, 8), (11, 8), (11, 64), (2, 0), (11, 8), (11, 8), (13, 8), (11, 8), (11, 64), (0, 0), (1, 0), (12, 1300), (11, 1300), (11, 1300), (11, 4), (11, 2048), (2, 0), (11, 8), (11, 8), (13, 8), (11, 8), (11, 64), (2, 0), (11, 8), (11, 8), (13, 8), (11, 8), (11, 64), (2, 0), (11, 8), (11, 8), (13, 8), (11, 8), (11, 64), (11, 512), (7, 0), (11, 36), (11, 40), (11, 40), (11, 36), (11, 36), (11, 40), (11, 108), (11, 111), (12, 111), (11, 36), (3, 0), (11, 16), (11, 16), (11, 16), (11, 16), (11, 400), (11, 5), (11, 32), (3, 0), (11, 16), (11, 16), (11, 16), (11, 16), (11, 400), (11, 5), (11, 32)]
/-- the two constructors, and what they leave -/
def Init (γ : rG) (l : Launch) (S : rS) : Prop := ∃ (I1 : Nat → Nat → Int32) (J1 : Nat → Nat → Int64) (R1 : Nat → Nat → Option Nat) (I2 : Nat → Nat → Int32) (J2 : Nat → Nat → Int64) (R2 : Nat → Nat → Option Nat), rMet γ l m_X8_init [.ref 0] (shL [(8, 0)], I00, J00, R00) (shL Ws8, I1, J1, R1) none ∧ Fr 169 I1 J1 R1 ∧ rMet γ l m_X9_init [.ref 169] (shL (Ws8 ++ [(9, 0)]), I1, J1, R1) (SH, I2, J2, R2) none ∧ S I2 J2 R2
theorem law_start {γ : rG} {l : Launch} {S : rS} (hI : Init γ l S) (kk : ∀ I J R, S I J R → atL18 γ l 18 0 I J R) : ∃ hf, rV γ l m_L_law 0 0 0 [some (.float 5), none, none, none] [] (shL [], I00, J00, R00) hf (some (.int 1)) := by
  obtain ⟨I1, J1, R1, I2, J2, R2, h1, hfr, h2, hS⟩ := hI
  obtain ⟨hf, hv⟩ := kk _ _ _ hS
  have hfr0 : Fr 0 I00 J00 R00 := fun b _ => ⟨rfl, rfl, rfl⟩
  have hl8 : Ws8.length = 169 := rfl
  refine ⟨hf, ?_⟩
  exact r_newcL (m := 0) (c := 8) rfl hfr0 dL_law_0 wc_RL_7 wi_8 wz_8 (by decide) (Nat.le_of_ble_eq_true rfl) (Nat.le_of_ble_eq_true rfl) (r_dup dL_law_3 rfl (r_callI (As := []) (rest := [.ref 0]) (M' := m_X8_init) dL_law_4 yy_X8_init yi_X8_init lm_RL_9 rfl rfl rfl (Nat.le_of_ble_eq_true rfl) ⟨(Nat.le_of_ble_eq_true rfl), (Nat.le_of_ble_eq_true rfl)⟩ ⟨(Nat.le_of_ble_eq_true rfl), (Nat.le_of_ble_eq_true rfl)⟩ h1 (r_astore_n (L' := [some (.float 5), some (.ref 0), none, none]) dL_law_7 (by decide) rfl (r_newcL (m := 169) (c := 9) hl8 hfr dL_law_8 wc_RL_10 wi_9 wz_9 (by decide) (Nat.le_of_ble_eq_true rfl) (Nat.le_of_ble_eq_true rfl) (r_dup dL_law_11 rfl (r_callI (As := []) (rest := [.ref 169]) (M' := m_X9_init) dL_law_12 yy_X9_init yi_X9_init lm_RL_12 rfl rfl rfl (Nat.le_of_ble_eq_true rfl) ⟨(Nat.le_of_ble_eq_true rfl), (Nat.le_of_ble_eq_true rfl)⟩ ⟨(Nat.le_of_ble_eq_true rfl), (Nat.le_of_ble_eq_true rfl)⟩ h2 (r_astore_n (L' := [some (.float 5), some (.ref 0), some (.ref 169), none]) dL_law_15 (by decide) rfl (r_iconst (v := (0 : Int32)) dL_law_16 (by decide) (r_istore_n (L' := [some (.float 5), some (.ref 0), some (.ref 169), some (.int (nI 0))]) dL_law_17 (by decide) rfl hv)))))))))
/-! ===== the machine's own words for it ===== -/
theorem hasRoom_le {s : State} {pl : Platform} {R R' : Room} (h1 : R'.frames ≤ R.frames) (h2 : R'.locals ≤ R.locals) (h3 : R'.cells ≤ R.cells) (h4 : R'.slots ≤ R.slots) (h : s.hasRoom pl R = true) : s.hasRoom pl R' = true := by
  simp only [State.hasRoom, Bool.and_eq_true, decide_eq_true_eq] at h ⊢
  obtain ⟨⟨⟨⟨a, b⟩, c⟩, d⟩, e⟩ := h
  exact ⟨⟨⟨⟨by omega, by omega, by omega, by omega, by omega, b.2.2.2.2⟩, by omega⟩, by omega⟩, e⟩
theorem law_W {γ : rG} {l : Launch} {p : Program} {e : Env} {s : State} {m : MethodId} {below : List Frame} {meth : Method} {c : Code} {b : Nat} {hf : rHeap} (hC : rC γ m_L_law p s m #[Value.ref b] meth c) (hb : gO γ 5 = b) (hB : gB γ = s.heap.size)
    (hv : rV γ l m_L_law 0 0 0 [some (.float 5), none, none, none] [] (shL [], I00, J00, R00) hf (some (.int 1))) : W p l e room_1 s m #[Value.ref b] below meth c s.heap [] 0 0 (lw_Z below #[Value.ref b] s) (entryFrame m ([Value.ref b] : List Value).toArray 4) := by
  intro T hT X
  have X' : Stand p l e (rRm m_L_law) s m #[Value.ref b] below meth c T [] 0 0 := { X with room := hasRoom_le (R := room_1) (by decide) (by decide) (by decide) (by decide) X.room }
  have hl := lv_entry ([.ref b]) (n := 4) (Nat.le_of_ble_eq_true rfl)
  rw [lg_entry_eq]
  have hH : rH γ (shL [], I00, J00, R00) s.heap := ⟨hB.symm, fun k q h => by simp [rws, shL] at h⟩
  have hL : rL γ m_L_law [some (.float 5), none, none, none] ((lg_sl ([.ref b]) ++ List.replicate (4 - (lg_sl ([.ref b])).length) Slot.unset).toArray) := by
    refine ⟨hl.1, hl.2.1, fun i v hi => ?_⟩
    match i, hi with
    | 0, hi =>
      cases hi
      have h0 := hl.2.2 (0, .ref b) (by simp [lv_args])
      have e5 : rtr γ (.float 5) = .ref b := by show Value.ref (gO γ 5) = _; rw [hb]
      rw [e5]
      exact h0
    | 1, hi => cases hi
    | 2, hi => cases hi
    | 3, hi => cases hi
    | i + 4, hi => simp at hi
  obtain ⟨t, hst, o, r1, r2, ⟨ho, -, -⟩, Lc, ⟨f1, f2, f3⟩, hLc⟩ := hv p e s m _ below meth c s.heap [] _ hC hL hH va_S.rf T hT X'
  refine ⟨t, hst, o, r1, r2, ho, f1, f2, f3.weaken (fun y hy hlt => ?_) (by decide) (by decide)⟩
  exact absurd (hLc y hy) (Nat.not_le.mpr (by rw [hB]; exact hlt))
def nFlat : List Cond := flatC (Jvm.Cond.and given_1 narrow_1)
theorem nf_el0 : ∀ j, j < 10 → Cond.eq (.elem (Term.static "LockedLetter$Reader" "RANKS" "[I") (.int (Int32.ofNat j))) (.int (rRANKS j)) ∈ nFlat := by decide +kernel
theorem nf_el1 : ∀ j, j < 5 → Cond.eq (.elem (Term.static "LockedLetter$Finds" "WITH" "[I") (.int (Int32.ofNat j))) (.int (rWITH j)) ∈ nFlat := by decide +kernel
theorem nf_el2 : ∀ j, j < 112 → Cond.eq (.elem (Term.field (Term.string "LockedLetter$Tape" 59) "java/lang/String" "value" "[B") (.int (Int32.ofNat j))) (.int (rWORDS.getD j 0)) ∈ nFlat := by decide +kernel
theorem nf_m : Cond.arrayOf (Term.static "LockedLetter$Reader" "RANKS" "[I") .int ∈ nFlat ∧ Cond.eq (.length (Term.static "LockedLetter$Reader" "RANKS" "[I")) (.int (Int32.ofNat 10)) ∈ nFlat ∧ Cond.arrayOf (Term.static "LockedLetter$Finds" "WITH" "[I") .int ∈ nFlat ∧ Cond.eq (.length (Term.static "LockedLetter$Finds" "WITH" "[I")) (.int (Int32.ofNat 5)) ∈ nFlat ∧ Cond.eq (.static "java/lang/String" "COMPACT_STRINGS" "Z") (.int 1) ∈ nFlat ∧ Cond.isRef (.static "jdk/internal/util/Preconditions" "SIOOBE_FORMATTER" "Ljava/util/function/BiFunction;") ∈ nFlat := by decide +kernel
theorem nf_s : Cond.exactly (Term.string "LockedLetter$Tape" 59) "java/lang/String" ∈ nFlat ∧ Cond.eq (.field (Term.string "LockedLetter$Tape" 59) "java/lang/String" "coder" "B") (.int 0) ∈ nFlat ∧ Cond.arrayOf (Term.field (Term.string "LockedLetter$Tape" 59) "java/lang/String" "value" "[B") .byte ∈ nFlat ∧ Cond.eq (.length (Term.field (Term.string "LockedLetter$Tape" 59) "java/lang/String" "value" "[B")) (.int (Int32.ofNat 112)) ∈ nFlat := by decide +kernel
theorem nf_n : ∀ q ∈ rNest, Cond.methodLinkNest q.1 q.2.1 q.2.2.1 q.2.2.2 ∈ lw_tbl := by decide +kernel
theorem ls_0 : Cond.laysStatic RX4 "RANKS" "[I" ∈ lw_tbl := in_t3 (List.mem_of_getElem? (i := 68) (by decide +kernel))
theorem ls_1 : Cond.laysStatic RX0 "WITH" "[I" ∈ lw_tbl := in_t4 (List.mem_of_getElem? (i := 230) (by decide +kernel))
theorem ls_2 : Cond.laysStatic "java/lang/String" "COMPACT_STRINGS" "Z" ∈ lw_tbl := in_t2 (List.mem_of_getElem? (i := 234) (by decide +kernel))
theorem ls_3 : Cond.laysStatic "jdk/internal/util/Preconditions" "SIOOBE_FORMATTER" "Ljava/util/function/BiFunction;" ∈ lw_tbl := in_t3 (List.mem_of_getElem? (i := 2) (by decide +kernel))
theorem ls_s : Cond.stringRef RX6 59 "harm    cut     trick   peep    opens   doubt   if      and     or      kind    layers  column  number  below   " ∈ lw_tbl := in_t2 (List.mem_of_getElem? (i := 224) (by decide +kernel))
theorem ls_o : Cond.arrayOver (.object RX2) ∈ lw_tbl := in_t1 (List.mem_of_getElem? (i := 89) (by decide +kernel))
theorem wz_S : Cond.initialized "java/lang/String" ∈ lw_tbl := in_t1 (List.mem_of_getElem? (i := 12) (by decide +kernel))
theorem wz_P : Cond.initialized "jdk/internal/util/Preconditions" ∈ lw_tbl := in_t1 (List.mem_of_getElem? (i := 14) (by decide +kernel))
/-- the classes' numbers and slots -/
theorem w_D {args : Array Value} {s : State} (hts : ∀ w ∈ lw_tbl, w.before args s = true) : ∃ D : va_G, ∀ (k : Nat) (q : vw_C), vwCl[k]? = some q → u_Kn s q.1 q.2.1 q.2.2 (D.1 k) (D.2 k) := by
  have h : ∀ k, ∃ (cC : ClassId) (iS : Nat → Nat), k < 10 → u_Kn s (rCn k) (rT k) (rN k) cC iS := by
    intro k
    by_cases hk : k < 10
    · have hi : (Cond.instantiable (rCn k) (rN k)).before args s = true := by
        match k, hk with
        | 0, _ => exact hts _ wi_0
        | 1, _ => exact hts _ wi_1
        | 2, _ => exact hts _ wi_2
        | 3, _ => exact hts _ wi_3
        | 4, _ => exact hts _ wi_4
        | 5, _ => exact hts _ wi_5
        | 6, _ => exact hts _ wi_6
        | 7, _ => exact hts _ wi_7
        | 8, _ => exact hts _ wi_8
        | 9, _ => exact hts _ wi_9
      obtain ⟨cC, iS, hq⟩ := u_known (C := rCn k) (T := rT k) (N := rN k) (n := rN k) hts (r_in k hk) hi
      exact ⟨cC, iS, fun _ => hq⟩
    · exact ⟨0, fun _ => 0, fun q => absurd q hk⟩
  refine ⟨(fun k => Classical.choose (h k), fun k => Classical.choose (Classical.choose_spec (h k))), fun k q hq => ?_⟩
  have hk : k < 10 := (List.getElem?_eq_some_iff.mp hq).1
  have e := (rCl_at k hk).symm.trans hq
  cases e
  exact Classical.choose_spec (Classical.choose_spec (h k)) hk
theorem w_arr {args : Array Value} {s : State} {ty : FieldType} (h : (Cond.arrayClass ty).before args s = true) (ht : ∀ n, ty ≠ .object n) : ∃ cA, ArrOfT s cA ty ∧ va_RA s cA ty := by
  obtain ⟨cA, kA, comp, h1, h2, h3⟩ := Cond.arrayClass_spec h
  refine ⟨cA, fun n z => ⟨fun k h => (by cases h), kA, h2, comp, h3⟩, ?_⟩
  cases ty <;> first | exact h1 | exact absurd rfl (ht _)
theorem w_arrP {args : Array Value} {s : State} (h : (Cond.arrayOver (.object RX2)).before args s = true) : ∃ cA, ArrOfT s cA (.object RX2) ∧ va_RA s cA (.object RX2) := by
  obtain ⟨comp, cA, kA, h1, -, h2, h3, h4⟩ := Cond.arrayOver_spec h
  exact ⟨cA, fun n z => ⟨fun k h => (by cases h), kA, h2, comp, h3⟩, kA, comp, h2, h3, h1, h4⟩
/-- from the law's entry to the reflected world -/
theorem w_world {p : Program} {s : State} {m : MethodId} {meth : Method} {c : Code} {b L : Nat} {xs : Nat → Int32} (C0 : lw_At p s m meth c b L xs) : ∃ γ : rG, rC γ m_L_law p s m #[Value.ref b] meth c ∧ gO γ 5 = b ∧ gB γ = s.heap.size ∧ gN γ = L := by
  obtain ⟨hx, hb, hr, hml, hown, hts, hX, hbl, hlocks, hnm, hgv⟩ := id C0
  have hs : ∀ w ∈ nFlat, w.before #[Value.ref b] s = true := flat_of_before _ hgv
  obtain ⟨D, hD⟩ := w_D hts
  obtain ⟨cB, hcB⟩ := w_arr (hts _ wa_byte) (fun n h => by cases h)
  obtain ⟨cI, hcI⟩ := w_arr (hts _ wa_int) (fun n h => by cases h)
  obtain ⟨cJ, hcJ⟩ := w_arr (hts _ wa_long) (fun n h => by cases h)
  obtain ⟨cZ, hcZ⟩ := w_arr (hts _ wa_boolean) (fun n h => by cases h)
  obtain ⟨cP, hcP⟩ := w_arrP (hts _ ls_o)
  have hA : ∀ a : Nat, a < s.heap.size → ¬ (fun q : Nat => s.heap.size ≤ q) a := fun a h => Nat.not_le.mpr h
  obtain ⟨t0, ht0, hT0⟩ := va_Tof (A := fun q : Nat => s.heap.size ≤ q) (f := fun j => .int (rRANKS j)) (N := 10) (by decide) (hs _ nf_m.1) (va_eqt (hs _ nf_m.2.1)) (fun j hj => va_eqt (hs _ (nf_el0 j hj))) hA
  obtain ⟨t1, ht1, hT1⟩ := va_Tof (A := fun q : Nat => s.heap.size ≤ q) (f := fun j => .int (rWITH j)) (N := 5) (by decide) (hs _ nf_m.2.2.1) (va_eqt (hs _ nf_m.2.2.2.1)) (fun j hj => va_eqt (hs _ (nf_el1 j hj))) hA
  have hZ0 := va_Zref (hts _ ls_0) (hts _ wz_4) ht0 hA
  have hZ1 := va_Zref (hts _ ls_1) (hts _ wz_0) ht1 hA
  have hZ2 := va_Zof (hts _ ls_2) (hts _ wz_S) (va_eqt (hs _ nf_m.2.2.2.2.1)) hA
  have hZ3 := va_Zqof (hts _ ls_3) (hts _ wz_P) (hs _ nf_m.2.2.2.2.2) hA
  obtain ⟨adK, adV, hVS, hev⟩ := vk_Sof (N := 1) (tm := fun _ => (Term.string "LockedLetter$Tape" 59)) (len := [112]) (byt := [rWORDS]) (A := fun q : Nat => s.heap.size ≤ q) (args := #[Value.ref b]) (s := s) (fun i hi => by rw [show i = 0 by omega]; decide) (fun i hi => hs _ nf_s.1) (fun i hi => hs _ nf_s.2.1) (fun i hi => hs _ nf_s.2.2.1) (fun i hi => by rw [show i = 0 by omega]; exact hs _ nf_s.2.2.2) (fun i hi j hj => by rw [show i = 0 by omega] at hj ⊢; exact hs _ (nf_el2 j hj)) (fun i j hi hj hne => absurd (by omega) hne) hA
  obtain ⟨t4, hZ4⟩ : ∃ t4 : Nat, va_Z "jdk/internal/util/Preconditions" "SIOOBE_FORMATTER" "Ljava/util/function/BiFunction;" (.ref t4) (fun q : Nat => s.heap.size ≤ q) s s.heap ∨ va_Z "jdk/internal/util/Preconditions" "SIOOBE_FORMATTER" "Ljava/util/function/BiFunction;" .null (fun q : Nat => s.heap.size ≤ q) s s.heap := by
    rcases hZ3 with h | ⟨t, h⟩
    · exact ⟨0, Or.inr h⟩
    · exact ⟨t, Or.inl h⟩
  refine ⟨(D, fun k => if k = 10 then cB else if k = 11 then cI else if k = 12 then cJ else if k = 13 then cZ else cP, s.heap.size, fun j => if j = 0 then t0 else if j = 1 then t1 else if j = 2 then adK 0 else if j = 3 then adV 0 else if j = 4 then t4 else b, L, xs), ⟨hx, hb, hr, hml, hown, fun w hw => hts w (List.mem_filter.mp hw).1, hlocks, hnm, ⟨hD, fun k q hq => ?_⟩, ?_, Nat.le_refl _⟩, rfl, rfl, rfl⟩
  · match k, hq with
    | 0, hq => cases hq; exact hcB
    | 1, hq => cases hq; exact hcI
    | 2, hq => cases hq; exact hcJ
    | 3, hq => cases hq; exact hcZ
    | 4, hq => cases hq; exact hcP
    | k + 5, hq => simp [gT] at hq
  · refine ⟨fun q hq => va_Nw.of rfl (hts _ (nf_n q hq)), hZ0, hT0, hZ1, hT1, hZ2, ⟨fun i hi => ?_, fun i j hi hj _ => by omega⟩, ?_, hZ4, ?_, hts _ ls_o⟩
    · have e : i = 0 := by omega
      subst e
      exact hVS.1 0 (by decide)
    · exact vk_R.of (hts _ ls_s) (hev 0 (by decide))
    · obtain ⟨scr, h1, h2, h3, h4, h5⟩ := hX
      exact ⟨scr, h1, h2, h3, by rw [h4]; exact Nat.le_refl _, by rw [h4], h5, hA b hbl⟩
