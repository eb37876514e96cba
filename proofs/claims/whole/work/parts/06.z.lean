/-! ===== what was there before: static rows, the text ===== -/
section RS
variable {γ : rG} {l : Launch} {M M' : rM} {k n pc : Nat} {L : List (Option Value)} {st As rest : List Value} {h h1 hf : rHeap} {r r1 : Option Value}
theorem r_getsA {idx : Nat} (d : decode (mB M) pc = .ok (.getstatic idx, 3)) (hl : Cond.fieldLink (mOwn M) idx RX4 "RANKS" "[I" ∈ lw_tbl) (kk : rV γ l M k n (pc + 3) L (.float 0 :: st) h hf r) : rV γ l M k n pc L st h hf r :=
  fun p e s m args below meth c H locs ls hC hL hH hS => va_gets hC.1 hC.2.1 hC.2.2.2.2.2.2.2.2.2.1.2.1 hS hC.2.2.2.2.1 (hC.2.2.2.2.2.1 _ (rTbl_mem hl rfl)) (fun _ q => q) d (kk p e s m args below meth c H locs ls hC hL hH hS)
theorem r_getsB {idx : Nat} (d : decode (mB M) pc = .ok (.getstatic idx, 3)) (hl : Cond.fieldLink (mOwn M) idx RX0 "WITH" "[I" ∈ lw_tbl) (kk : rV γ l M k n (pc + 3) L (.float 1 :: st) h hf r) : rV γ l M k n pc L st h hf r :=
  fun p e s m args below meth c H locs ls hC hL hH hS => va_gets hC.1 hC.2.1 hC.2.2.2.2.2.2.2.2.2.1.2.2.2.1 hS hC.2.2.2.2.1 (hC.2.2.2.2.2.1 _ (rTbl_mem hl rfl)) (fun _ q => q) d (kk p e s m args below meth c H locs ls hC hL hH hS)
theorem r_getsC {idx : Nat} (d : decode (mB M) pc = .ok (.getstatic idx, 3)) (hl : Cond.fieldLink (mOwn M) idx "java/lang/String" "COMPACT_STRINGS" "Z" ∈ lw_tbl) (kk : rV γ l M k n (pc + 3) L (.int 1 :: st) h hf r) : rV γ l M k n pc L st h hf r :=
  fun p e s m args below meth c H locs ls hC hL hH hS => va_gets hC.1 hC.2.1 hC.2.2.2.2.2.2.2.2.2.1.2.2.2.2.2.1 hS hC.2.2.2.2.1 (hC.2.2.2.2.2.1 _ (rTbl_mem hl rfl)) (fun _ q => q) d (kk p e s m args below meth c H locs ls hC hL hH hS)
theorem r_getsD {idx : Nat} (d : decode (mB M) pc = .ok (.getstatic idx, 3)) (hl : Cond.fieldLink (mOwn M) idx "jdk/internal/util/Preconditions" "SIOOBE_FORMATTER" "Ljava/util/function/BiFunction;" ∈ lw_tbl) (kk : rV γ l M k n (pc + 3) L (.float 4 :: st) h hf r) (kn : rV γ l M k n (pc + 3) L (.null :: st) h hf r) : rV γ l M k n pc L st h hf r := by
  intro p e s m args below meth c H locs ls hC hL hH hS
  rcases hC.2.2.2.2.2.2.2.2.2.1.2.2.2.2.2.2.2.2.1 with hz | hz
  · exact va_gets hC.1 hC.2.1 hz hS hC.2.2.2.2.1 (hC.2.2.2.2.2.1 _ (rTbl_mem hl rfl)) (fun _ q => q) d (kk p e s m args below meth c H locs ls hC hL hH hS)
  · exact va_gets hC.1 hC.2.1 hz hS hC.2.2.2.2.1 (hC.2.2.2.2.2.1 _ (rTbl_mem hl rfl)) (fun _ q => q) d (kn p e s m args below meth c H locs ls hC hL hH hS)
theorem r_ialoadA {i : Int32} (d : decode (mB M) pc = .ok (.iaload, 1)) (hi : vp_in i 10) (kk : rV γ l M k n (pc + 1) L (.int (rRANKS i.toNatClampNeg) :: st) h hf r) : rV γ l M k n pc L (.int i :: .float 0 :: st) h hf r :=
  fun p e s m args below meth c H locs ls hC hL hH hS => va_ti hC.1 hC.2.1 hC.2.2.2.2.2.2.2.2.2.1.2.2.1 hS hi rfl d (kk p e s m args below meth c H locs ls hC hL hH hS)
theorem r_ialoadB {i : Int32} (d : decode (mB M) pc = .ok (.iaload, 1)) (hi : vp_in i 5) (kk : rV γ l M k n (pc + 1) L (.int (rWITH i.toNatClampNeg) :: st) h hf r) : rV γ l M k n pc L (.int i :: .float 1 :: st) h hf r :=
  fun p e s m args below meth c H locs ls hC hL hH hS => va_ti hC.1 hC.2.1 hC.2.2.2.2.2.2.2.2.2.1.2.2.2.2.1 hS hi rfl d (kk p e s m args below meth c H locs ls hC hL hH hS)
theorem r_alenB (d : decode (mB M) pc = .ok (.arraylength, 1)) (kk : rV γ l M k n (pc + 1) L (.int 5 :: st) h hf r) : rV γ l M k n pc L (.float 1 :: st) h hf r :=
  fun p e s m args below meth c H locs ls hC hL hH hS => va_tlen hC.1 hC.2.1 hC.2.2.2.2.2.2.2.2.2.1.2.2.2.2.1 hS (by decide) d (kk p e s m args below meth c H locs ls hC hL hH hS)
theorem r_alenA (d : decode (mB M) pc = .ok (.arraylength, 1)) (kk : rV γ l M k n (pc + 1) L (.int 10 :: st) h hf r) : rV γ l M k n pc L (.float 0 :: st) h hf r :=
  fun p e s m args below meth c H locs ls hC hL hH hS => va_tlen hC.1 hC.2.1 hC.2.2.2.2.2.2.2.2.2.1.2.2.1 hS (by decide) d (kk p e s m args below meth c H locs ls hC hL hH hS)
theorem r_ldcS (d : decode (mB M) pc = .ok (.ldc 59, 2)) (ho : mOwn M = RX6) (kk : rV γ l M k n (pc + 2) L (.float 2 :: st) h hf r) : rV γ l M k n pc L st h hf r :=
  fun p e s m args below meth c H locs ls hC hL hH hS => va_ldcS hC.1 hC.2.1 (own := RX6) (by rw [← ho]; exact hC.2.2.2.2.1) hC.2.2.2.2.2.2.2.2.2.1.2.2.2.2.2.2.2.1 d (kk p e s m args below meth c H locs ls hC hL hH hS)
theorem r_strC {idx : Nat} (d : decode (mB M) pc = .ok (.getfield idx, 3)) (hl : Cond.fieldLink (mOwn M) idx "java/lang/String" "coder" "B" ∈ lw_tbl) (kk : rV γ l M k n (pc + 3) L (.int 0 :: st) h hf r) : rV γ l M k n pc L (.float 2 :: st) h hf r :=
  fun p e s m args below meth c H locs ls hC hL hH hS => vk_getf hC.1 hC.2.1 (hC.2.2.2.2.2.2.2.2.2.1.2.2.2.2.2.2.1.1 0 (by decide)).2.1 hS hC.2.2.2.2.1 (hC.2.2.2.2.2.1 _ (rTbl_mem hl rfl)) (fun _ q => q) d (kk p e s m args below meth c H locs ls hC hL hH hS)
theorem r_strV {idx : Nat} (d : decode (mB M) pc = .ok (.getfield idx, 3)) (hl : Cond.fieldLink (mOwn M) idx "java/lang/String" "value" "[B" ∈ lw_tbl) (kk : rV γ l M k n (pc + 3) L (.float 3 :: st) h hf r) : rV γ l M k n pc L (.float 2 :: st) h hf r :=
  fun p e s m args below meth c H locs ls hC hL hH hS => vk_getf hC.1 hC.2.1 (hC.2.2.2.2.2.2.2.2.2.1.2.2.2.2.2.2.1.1 0 (by decide)).2.2.1 hS hC.2.2.2.2.1 (hC.2.2.2.2.2.1 _ (rTbl_mem hl rfl)) (fun _ q => q) d (kk p e s m args below meth c H locs ls hC hL hH hS)
theorem r_alenS (d : decode (mB M) pc = .ok (.arraylength, 1)) (kk : rV γ l M k n (pc + 1) L (.int 112 :: st) h hf r) : rV γ l M k n pc L (.float 3 :: st) h hf r :=
  fun p e s m args below meth c H locs ls hC hL hH hS => va_tlen hC.1 hC.2.1 (hC.2.2.2.2.2.2.2.2.2.1.2.2.2.2.2.2.1.1 0 (by decide)).2.2.2 hS (by decide) d (kk p e s m args below meth c H locs ls hC hL hH hS)
theorem r_baloadS {i : Int32} (d : decode (mB M) pc = .ok (.baload, 1)) (hi : vp_in i 112) (kk : rV γ l M k n (pc + 1) L (.int (rWORDS.getD i.toNatClampNeg 0) :: st) h hf r) : rV γ l M k n pc L (.int i :: .float 3 :: st) h hf r :=
  fun p e s m args below meth c H locs ls hC hL hH hS => va_tb hC.1 hC.2.1 (hC.2.2.2.2.2.2.2.2.2.1.2.2.2.2.2.2.1.1 0 (by decide)).2.2.2 hS hi rfl d (kk p e s m args below meth c H locs ls hC hL hH hS)
/-- the script -/
theorem r_slen (d : decode (mB M) pc = .ok (.arraylength, 1)) (kk : rV γ l M k n (pc + 1) L (.int (nI (gN γ)) :: st) h hf r) : rV γ l M k n pc L (.float 5 :: st) h hf r :=
  fun p e s m args below meth c H locs ls hC hL hH hS => va_tlen hC.1 hC.2.1 hC.2.2.2.2.2.2.2.2.2.1.2.2.2.2.2.2.2.2.2.1 hS rfl d (kk p e s m args below meth c H locs ls hC hL hH hS)
theorem r_sld {i : Int32} (d : decode (mB M) pc = .ok (.iaload, 1)) (hi : vp_in i (gN γ)) (kk : rV γ l M k n (pc + 1) L (.int (gX γ i.toNatClampNeg) :: st) h hf r) : rV γ l M k n pc L (.int i :: .float 5 :: st) h hf r :=
  fun p e s m args below meth c H locs ls hC hL hH hS => va_ti hC.1 hC.2.1 hC.2.2.2.2.2.2.2.2.2.1.2.2.2.2.2.2.2.2.2.1 hS hi rfl d (kk p e s m args below meth c H locs ls hC hL hH hS)
/-- a call on the text -/
theorem r_callVO {idx nA : Nat} (d : decode (mB M) pc = .ok (.invokevirtual idx, 3)) (hy : rY M' nA) (hi : Cond.instanceMethod (mY M') ∈ lw_tbl) (hl : Cond.methodLink (mOwn M) idx (mY M') ∈ lw_tbl) (hs : Cond.selects (mY M').cls (mY M') (mY M') ∈ lw_tbl)
    (hcn : (mY M').cls = "java/lang/String") (hA : As.length = nA) (hst : (rest.map fun v => v.category).sum ≤ 8) (hR : rRoom M M') (hk : k + mC M' ≤ mC M ∧ n + mS M' ≤ mS M)
    (hm : rMet γ l M' (.float 2 :: As) h h1 r1) (kk : rV γ l M (k + mC M') (n + mS M') (pc + 3) L (r1.toList ++ rest) h1 hf r) : rV γ l M k n pc L (As.reverse ++ .float 2 :: rest) h hf r := by
  intro p e s m args below meth c H locs ls hC hL hH hS
  have hrecv := vk_recv hC.2.2.2.2.2.2.2.2.2.1.2.2.2.2.2.2.1 (show 0 < 1 by decide) hS
  have hts := hC.2.2.2.2.2.1
  refine r_after hC hL hS (va_runV (As := As.map (rtr γ)) (rest := rest.map (rtr γ)) (b := gO γ 2) (C := (mY M').cls) ⟨hC.1, hC.2.1, hC.2.2.2.1, hC.2.2.2.2.1, hts⟩ hm (cwV nA hts (fun w hw => ?_) rfl rfl rfl ⟨rfl, hy.2.2.1, hy.2.2.2.1, hy.2.2.2.2⟩ hR) ⟨rPre_blind γ h _, by rw [hcn]; exact hrecv, r_pre (av := .float 2 :: As) hC hH hS⟩ rfl (by rw [List.length_map]; exact hA) hL.1 (by simp [F0, rtr]) (rest_cat γ rest hst) d hk) kk
  unfold wsV at hw
  rcases List.mem_append.mp hw with hw | hw
  · simp only [List.mem_cons, List.not_mem_nil, or_false] at hw
    rcases hw with rfl | rfl | rfl | rfl
    · exact ⟨rTbl_mem hl rfl, good_of_word rfl⟩
    · exact ⟨rTbl_mem hi rfl, good_of_word rfl⟩
    · exact ⟨rTbl_mem hs rfl, good_of_word rfl⟩
    · exact ⟨rTbl_mem hy.2.1 rfl, good_of_word rfl⟩
  · exact r_goodWs hy.1 w hw
/-- a switch's other values -/
theorem rSwE {x j : Int32} (h : x.toInt = j.toInt) : x = j := Int32.toInt_inj.mp h
end RS
