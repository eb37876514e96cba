/-! ===== calls ===== -/
section RC
variable {γ : rG} {l : Launch} {M M' : rM} {k n pc : Nat} {L : List (Option Value)} {rest As : List Value} {h h1 hf : rHeap} {r r1 : Option Value}
theorem rPre_blind (γ : rG) (h : rHeap) (av : List Value) : FrameBlind (va_Pc av (rPre γ h)) := by
  intro a U g mk q
  obtain ⟨q0, q1, q2, q3⟩ := q
  exact ⟨q0, q1, va_K.moved (u := U) (U := U.calling g mk a) (Vm.Alike.refl U.vm) q2, q3.blind g mk a⟩
theorem r_goodCode (M : rM) : goodWord (.code (mY M) (mB M) (mL M) (mR M)) = true := rfl
theorem r_goodWs (hc : Cond.code (mY M') (mB M') (mL M') (mR M') ∈ lw_tbl) : GoodIn rTbl (mWs M') := by
  intro w hw
  rcases List.mem_cons.mp hw with rfl | hw
  · exact ⟨rTbl_mem hc rfl, good_of_word rfl⟩
  · exact ⟨hw, rTbl_good hw⟩
theorem r_pre {p : Program} {s : State} {m : MethodId} {args : Array Value} {meth : Method} {c : Code} {H : Heap} {locs : List Loc} {av : List Value} (hC : rC γ M p s m args meth c) (hH : rH γ h H) (hS : va_S (gF γ) s.heap H locs) : ∀ U : State, U.heap = H → s.WarmedH U.vm → va_Pc (av.map (rtr γ)) (rPre γ h) (av.map (rtr γ)).toArray U :=
  fun U hU hW => ⟨rfl, by rw [hU]; exact hH, va_K.moved hW.alike hC.2.2.2.2.2.2.2.2.1, rRO.carry hC.2.2.2.2.2.2.2.2.2.1 hW hU hS⟩
theorem r_after {p : Program} {e : Env} {s : State} {m : MethodId} {args : Array Value} {below : List Frame} {meth : Method} {c : Code} {H : Heap} {locs : List Loc} {ls : Array Slot} {st0 : List Value} {a : Array Value} (hC : rC γ M p s m args meth c) (hL : rL γ M L ls) (hS : va_S (gF γ) s.heap H locs)
    (hrun : va_Run p l e (rRm M) s m args below meth c H locs k n (mC M') (mS M') (F0 m pc ls st0) (rest.map (rtr γ)) (rQ γ h1 r1 a) (gF γ))
    (kk : rV γ l M (k + mC M') (n + mS M') (pc + 3) L (r1.toList ++ rest) h1 hf r) : W p l e (rRm M) s m args below meth c H locs k n (MQ below (rQ γ hf r) args s (mC M) (mS M) (gF γ)) (F0 m pc ls st0) := by
  intro T hT X
  obtain ⟨v, st₀, t, T', L', h0, X', hL', e1, e2, ⟨hv, hH1, hF⟩, hgo⟩ := hrun T hT X
  have hv2 : v = r1.map (rtr γ) := Outcome.returned.inj hv
  subst hv2
  have hS' : va_S (gF γ) s.heap T'.heap (locs ++ L') := by
    obtain ⟨f1, f2⟩ := hF
    rw [h0] at f1 f2
    refine ⟨Nat.le_trans hS.1 (by rw [e1]; exact f1), fun q h1 h2 => ?_, fun q hq => ?_⟩
    · rw [e1, f2 q (Nat.lt_of_lt_of_le h1 hS.1) h2]
      exact hS.2.1 q h1 h2
    · rcases List.mem_append.mp hq with h | h
      · exact hS.2.2 q h
      · exact hL' q h
  obtain ⟨t2, a1, b1⟩ := kk p e s m args below meth c T'.heap _ ls hC hL (by rw [e1]; exact hH1) hS' T' rfl X'
  refine ⟨t2, hgo t2 ?_, b1⟩
  have e3 : (Option.map (rtr γ) r1).toList ++ rest.map (rtr γ) = (r1.toList ++ rest).map (rtr γ) := by cases r1 <;> simp
  show Steps p.tables e below (T'.setTop (F0 m (pc + 3) ls ((Option.map (rtr γ) r1).toList ++ rest.map (rtr γ)))) t2
  rw [e3]
  exact a1
/-- what the tables say of a callee: its code, no handle, its parameters -/
def rY (M' : rM) (nA : Nat) : Prop := Cond.code (mY M') (mB M') (mL M') (mR M') ∈ lw_tbl ∧ Cond.initialized (mY M').cls ∈ lw_tbl ∧ (mY M').cls ≠ "java/lang/invoke/MethodHandle" ∧ (mY M').cls ≠ "java/lang/invoke/VarHandle" ∧ (parseMethodDescriptor (mY M').desc).map (fun d => d.parameters.length) = some nA
def rRoom (M M' : rM) : Prop := mV M' + 1 ≤ mV M ∧ 8 + (mL M' + 11) + 40 * mV M' ≤ 40 * mV M
theorem rest_cat (γ : rG) (rest : List Value) (h : (rest.map fun v => v.category).sum ≤ 8) {m : MethodId} {pc : Nat} {ls : Array Slot} {st0 : List Value} : 2 * (F0 m pc ls st0).monitorRoom + ((rest.map (rtr γ)).map fun v => v.category).sum ≤ 8 := by
  have e1 : (rest.map (rtr γ)).map (fun v => v.category) = rest.map (fun v => v.category) := by
    rw [List.map_map]
    exact List.map_congr_left (fun v _ => rtr_cat γ v)
  rw [e1]
  show 2 * 0 + _ ≤ 8
  omega
theorem r_callV {idx ci a nA : Nat} (d : decode (mB M) pc = .ok (.invokevirtual idx, 3)) (hy : rY M' nA) (hi : Cond.instanceMethod (mY M') ∈ lw_tbl) (hl : Cond.methodLink (mOwn M) idx (mY M') ∈ lw_tbl) (hs : Cond.selects (mY M').cls (mY M') (mY M') ∈ lw_tbl)
    (hc : ci < 10) (hcn : rCn ci = (mY M').cls) (ha : rK h.1 a ci) (hA : As.length = nA) (hst : (rest.map fun v => v.category).sum ≤ 8) (hR : rRoom M M') (hk : k + mC M' ≤ mC M ∧ n + mS M' ≤ mS M)
    (hm : rMet γ l M' (.ref a :: As) h h1 r1) (kk : rV γ l M (k + mC M') (n + mS M') (pc + 3) L (r1.toList ++ rest) h1 hf r) : rV γ l M k n pc L (As.reverse ++ .ref a :: rest) h hf r := by
  intro p e s m args below meth c H locs ls hC hL hH hS
  have hw : (rws γ h)[a]? = some (gB γ + a, .inr (ci, rfs γ ci (h.2.1 a) (h.2.2.2 a))) := by
    rw [rws_at γ ha.1]
    obtain ⟨sh, I, J, R⟩ := h
    rw [rce_obj γ ha hc]
  have hrecv := va_recv hC.2.2.2.2.2.2.2.2.1 hH.2 (rCl_at ci hc) hw
  have hts := hC.2.2.2.2.2.1
  refine r_after hC hL hS (va_runV (As := As.map (rtr γ)) (rest := rest.map (rtr γ)) (b := gB γ + a) (C := (mY M').cls) ⟨hC.1, hC.2.1, hC.2.2.2.1, hC.2.2.2.2.1, hts⟩ hm (cwV nA hts (fun w hw => ?_) rfl rfl rfl ⟨rfl, hy.2.2.1, hy.2.2.2.1, hy.2.2.2.2⟩ hR) ⟨rPre_blind γ h _, by rw [← hcn]; exact hrecv, r_pre (av := .ref a :: As) hC hH hS⟩ rfl (by rw [List.length_map]; exact hA) hL.1 (by simp [F0, rtr]) (rest_cat γ rest hst) d hk) kk
  unfold wsV at hw
  rcases List.mem_append.mp hw with hw | hw
  · simp only [List.mem_cons, List.not_mem_nil, or_false] at hw
    rcases hw with rfl | rfl | rfl | rfl
    · exact ⟨rTbl_mem hl rfl, good_of_word rfl⟩
    · exact ⟨rTbl_mem hi rfl, good_of_word rfl⟩
    · exact ⟨rTbl_mem hs rfl, good_of_word rfl⟩
    · exact ⟨rTbl_mem hy.2.1 rfl, good_of_word rfl⟩
  · exact r_goodWs hy.1 w hw
theorem r_callS {idx nA : Nat} (d : decode (mB M) pc = .ok (.invokestatic idx, 3)) (hy : rY M' nA) (hi : Cond.static (mY M') ∈ lw_tbl) (hl : Cond.methodLink (mOwn M) idx (mY M') ∈ lw_tbl)
    (hA : As.length = nA) (hst : (rest.map fun v => v.category).sum ≤ 8) (hR : rRoom M M') (hk : k + mC M' ≤ mC M ∧ n + mS M' ≤ mS M)
    (hm : rMet γ l M' As h h1 r1) (kk : rV γ l M (k + mC M') (n + mS M') (pc + 3) L (r1.toList ++ rest) h1 hf r) : rV γ l M k n pc L (As.reverse ++ rest) h hf r := by
  intro p e s m args below meth c H locs ls hC hL hH hS
  have hts := hC.2.2.2.2.2.1
  refine r_after hC hL hS (va_runS (As := As.map (rtr γ)) (rest := rest.map (rtr γ)) ⟨hC.1, hC.2.1, hC.2.2.2.1, hC.2.2.2.2.1, hts⟩ hm (va_cwS nA hts (fun w hw => ?_) rfl rfl rfl ⟨hy.2.2.1, hy.2.2.2.1, hy.2.2.2.2⟩ hR) ⟨rPre_blind γ h _, r_pre (av := As) hC hH hS⟩ rfl (by rw [List.length_map]; exact hA) hL.1 (by simp [F0]) (rest_cat γ rest hst) d hk) kk
  unfold va_wsS at hw
  rcases List.mem_append.mp hw with hw | hw
  · simp only [List.mem_cons, List.not_mem_nil, or_false] at hw
    rcases hw with rfl | rfl | rfl
    · exact ⟨rTbl_mem hl rfl, good_of_word rfl⟩
    · exact ⟨rTbl_mem hi rfl, good_of_word rfl⟩
    · exact ⟨rTbl_mem hy.2.1 rfl, good_of_word rfl⟩
  · exact r_goodWs hy.1 w hw
theorem r_callSN {idx nA : Nat} {host : String} (d : decode (mB M) pc = .ok (.invokestatic idx, 3)) (hy : rY M' nA) (hi : Cond.static (mY M') ∈ lw_tbl) (hl : (mOwn M, idx, mY M', host) ∈ rNest)
    (hA : As.length = nA) (hst : (rest.map fun v => v.category).sum ≤ 8) (hR : rRoom M M') (hk : k + mC M' ≤ mC M ∧ n + mS M' ≤ mS M)
    (hm : rMet γ l M' As h h1 r1) (kk : rV γ l M (k + mC M') (n + mS M') (pc + 3) L (r1.toList ++ rest) h1 hf r) : rV γ l M k n pc L (As.reverse ++ rest) h hf r := by
  intro p e s m args below meth c H locs ls hC hL hH hS
  have hts := hC.2.2.2.2.2.1
  exact r_after hC hL hS (va_runSN (As := As.map (rtr γ)) (rest := rest.map (rtr γ)) ⟨hC.1, hC.2.1, hC.2.2.2.1, hC.2.2.2.2.1, hts⟩ hm ⟨va_cnB nA hts (r_goodWs hy.1) rfl rfl rfl (hC.2.2.2.2.2.2.2.2.2.1.1 _ hl) (hts _ (rTbl_mem hy.2.1 rfl)) ⟨hy.2.2.1, hy.2.2.2.1, hy.2.2.2.2⟩ hR, hts _ (rTbl_mem hi rfl), trivial⟩ ⟨rPre_blind γ h _, r_pre (av := As) hC hH hS⟩ rfl (by rw [List.length_map]; exact hA) hL.1 (by simp [F0]) (rest_cat γ rest hst) d hk) kk
theorem r_callIN {idx a nA : Nat} {host : String} (d : decode (mB M) pc = .ok (.invokespecial idx, 3)) (hy : rY M' nA) (hi : Cond.instanceMethod (mY M') ∈ lw_tbl) (hl : (mOwn M, idx, mY M', host) ∈ rNest) (hin : (mY M').name = "<init>") (hret : mR M' = none)
    (hA : As.length = nA) (hst : (rest.map fun v => v.category).sum ≤ 8) (hR : rRoom M M') (hk : k + mC M' ≤ mC M ∧ n + mS M' ≤ mS M)
    (hm : rMet γ l M' (.ref a :: As) h h1 r1) (kk : rV γ l M (k + mC M') (n + mS M') (pc + 3) L (r1.toList ++ rest) h1 hf r) : rV γ l M k n pc L (As.reverse ++ .ref a :: rest) h hf r := by
  intro p e s m args below meth c H locs ls hC hL hH hS
  have hts := hC.2.2.2.2.2.1
  have hg := r_goodWs (M' := M') hy.1
  exact r_after hC hL hS (va_runIN (As := As.map (rtr γ)) (rest := rest.map (rtr γ)) (b := gB γ + a) ⟨hC.1, hC.2.1, hC.2.2.2.1, hC.2.2.2.2.1, hts⟩ hm ⟨va_cnB nA hts hg (by unfold mWs; rw [hret]) rfl rfl (hC.2.2.2.2.2.2.2.2.2.1.1 _ hl) (hts _ (rTbl_mem hy.2.1 rfl)) ⟨hy.2.2.1, hy.2.2.2.1, hy.2.2.2.2⟩ hR, hin, hts _ (rTbl_mem hi rfl)⟩ ⟨rPre_blind γ h _, r_pre (av := .ref a :: As) hC hH hS⟩ rfl (by rw [List.length_map]; exact hA) hL.1 (by simp [F0, rtr]) (rest_cat γ rest hst) d hk) kk
theorem r_callI {idx a nA : Nat} (d : decode (mB M) pc = .ok (.invokespecial idx, 3)) (hy : rY M' nA) (hi : Cond.instanceMethod (mY M') ∈ lw_tbl) (hl : Cond.methodLink (mOwn M) idx (mY M') ∈ lw_tbl) (hin : (mY M').name = "<init>") (hret : mR M' = none)
    (hA : As.length = nA) (hst : (rest.map fun v => v.category).sum ≤ 8) (hR : rRoom M M') (hk : k + mC M' ≤ mC M ∧ n + mS M' ≤ mS M)
    (hm : rMet γ l M' (.ref a :: As) h h1 r1) (kk : rV γ l M (k + mC M') (n + mS M') (pc + 3) L (r1.toList ++ rest) h1 hf r) : rV γ l M k n pc L (As.reverse ++ .ref a :: rest) h hf r := by
  intro p e s m args below meth c H locs ls hC hL hH hS
  have hts := hC.2.2.2.2.2.1
  have hg := r_goodWs (M' := M') hy.1
  exact r_after hC hL hS (va_runI (As := As.map (rtr γ)) (rest := rest.map (rtr γ)) (b := gB γ + a) ⟨hC.1, hC.2.1, hC.2.2.2.1, hC.2.2.2.2.1, hts⟩ hm (cwI nA hts hg (by unfold mWs; rw [hret]) rfl rfl (hts _ (rTbl_mem hy.2.1 rfl)) (hts _ (rTbl_mem hl rfl)) (hts _ (rTbl_mem hi rfl)) hin ⟨hy.2.2.1, hy.2.2.2.1, hy.2.2.2.2⟩ hR) ⟨rPre_blind γ h _, r_pre (av := .ref a :: As) hC hH hS⟩ rfl (by rw [List.length_map]; exact hA) hL.1 (by simp [F0, rtr]) (rest_cat γ rest hst) d hk) kk
/-- Object's constructor does nothing -/
theorem r_objInit {idx a : Nat} (d : decode (mB M) pc = .ok (.invokespecial idx, 3)) (hl : Cond.methodLink (mOwn M) idx Lib.objectInit ∈ lw_tbl) (hi : Cond.instanceMethod Lib.objectInit ∈ lw_tbl) (hc : Cond.code Lib.objectInit ⟨#[0xb1]⟩ 1 none ∈ lw_tbl) (hst : (rest.map fun v => v.category).sum ≤ 8) (hV : 1 ≤ mV M)
    (kk : rV γ l M k n (pc + 3) L rest h hf r) : rV γ l M k n pc L (.ref a :: rest) h hf r := by
  intro p e s m args below meth c H locs ls hC hL hH hS
  have hts := hC.2.2.2.2.2.1
  refine W.objInit hC.1 hC.2.1 hC.2.2.2.2.1 (hts _ (rTbl_mem hl rfl)) (hts _ (rTbl_mem hi rfl)) (hts _ (rTbl_mem hc rfl)) rfl (hL.1.trans hC.2.2.2.1.symm) (rest := rest.map (rtr γ)) rfl d hV ?_ (kk p e s m args below meth c H locs ls hC hL hH hS)
  have := rest_cat γ rest hst (m := m) (pc := pc) (ls := ls) (st0 := (Value.ref a :: rest).map (rtr γ))
  show _ + 12 ≤ 40 * mV M
  omega
end RC
