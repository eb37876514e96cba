/-! ===== Math.max, Math.min: the library's own rows ===== -/
theorem wm_max : Cond.static Lib.Math.max.name ∈ lw_tbl ∧ Cond.code Lib.Math.max.name Lib.Math.max.code 2 (some .int) ∈ lw_tbl := ⟨yi_J9_max_7cf53, yy_J9_max_7cf53.1⟩
theorem wm_min : Cond.static Lib.Math.min.name ∈ lw_tbl ∧ Cond.code Lib.Math.min.name Lib.Math.min.code 2 (some .int) ∈ lw_tbl := ⟨yi_J9_min_7cf53, yy_J9_min_7cf53.1⟩
theorem wm_ini : Cond.initialized "java/lang/Math" ∈ lw_tbl := yy_J9_max_7cf53.2.1
section RMM
variable {γ : rG} {l : Launch} {M : rM} {k n pc : Nat} {L : List (Option Value)} {rest : List Value} {h hf : rHeap} {r : Option Value}
theorem rest_cat2 (γ : rG) (rest : List Value) : ((rest.map (rtr γ)).map fun v => v.category).sum = (rest.map fun v => v.category).sum := by
  rw [List.map_map]
  exact congrArg List.sum (List.map_congr_left (fun v _ => rtr_cat γ v))
theorem r_max {idx : Nat} {x y : Int32} (d : decode (mB M) pc = .ok (.invokestatic idx, 3)) (hl : Cond.methodLink (mOwn M) idx Lib.Math.max.name ∈ lw_tbl) (hst : (rest.map fun v => v.category).sum ≤ 8) (hV : 1 ≤ mV M) (hk : k ≤ mC M ∧ n ≤ mS M)
    (kk : rV γ l M k n (pc + 3) L (.int (if x < y then y else x) :: rest) h hf r) : rV γ l M k n pc L (.int y :: .int x :: rest) h hf r := by
  intro p e s m args below meth c H locs ls hC hL hH hS
  have hts := hC.2.2.2.2.2.1
  refine va_mmax hC.1 hC.2.1 (hC.2.2.2.1.trans hL.1.symm) hC.2.2.2.2.1 (hts _ (rTbl_mem hl rfl)) (hts _ (rTbl_mem wm_max.1 rfl)) (hts _ (rTbl_mem wm_ini rfl)) (hts _ (rTbl_mem wm_max.2 rfl)) hV ?_ hk.1 hk.2 d (kk p e s m args below meth c H locs ls hC hL hH hS)
  show _ + 13 ≤ 40 * mV M
  rw [rest_cat2]
  omega
theorem r_min {idx : Nat} {x y : Int32} (d : decode (mB M) pc = .ok (.invokestatic idx, 3)) (hl : Cond.methodLink (mOwn M) idx Lib.Math.min.name ∈ lw_tbl) (hst : (rest.map fun v => v.category).sum ≤ 8) (hV : 1 ≤ mV M) (hk : k ≤ mC M ∧ n ≤ mS M)
    (kk : rV γ l M k n (pc + 3) L (.int (if y < x then y else x) :: rest) h hf r) : rV γ l M k n pc L (.int y :: .int x :: rest) h hf r := by
  intro p e s m args below meth c H locs ls hC hL hH hS
  have hts := hC.2.2.2.2.2.1
  refine va_mmin hC.1 hC.2.1 (hC.2.2.2.1.trans hL.1.symm) hC.2.2.2.2.1 (hts _ (rTbl_mem hl rfl)) (hts _ (rTbl_mem wm_min.1 rfl)) (hts _ (rTbl_mem wm_ini rfl)) (hts _ (rTbl_mem wm_min.2 rfl)) hV ?_ hk.1 hk.2 d (kk p e s m args below meth c H locs ls hC hL hH hS)
  show _ + 13 ≤ 40 * mV M
  rw [rest_cat2]
  omega
end RMM
