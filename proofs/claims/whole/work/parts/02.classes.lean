/-! ===== the reflected world: a heap as numbers by (cell, place); a judgement over the machine that speaks of it alone ===== -/
def rCn (c : Nat) : String := match c with
  | 0 => RX0 | 1 => RX1 | 2 => RX2 | 3 => RX3 | 4 => RX4 | 5 => RX5 | 6 => RX6 | 7 => RX7 | 8 => RX8 | _ => RX9
def rT (c : Nat) : u_T := match c with
  | 0 => TX0 | 1 => TX1 | 2 => TX2 | 3 => TX3 | 4 => TX4 | 5 => TX5 | 6 => TX6 | 7 => TX7 | 8 => TX8 | _ => TX9
def rN (c : Nat) : Nat := match c with
  | 0 => 16 | 1 => 9 | 2 => 7 | 3 => 9 | 4 => 6 | 5 => 14 | 6 => 6 | 7 => 14 | 8 => 8 | _ => 83
def rty (c : Nat) : Nat → FieldType := match c with
  | 0 => tyX0 | 1 => tyX1 | 2 => tyX2 | 3 => tyX3 | 4 => tyX4 | 5 => tyX5 | 6 => tyX6 | 7 => tyX7 | 8 => tyX8 | _ => tyX9
theorem rCl_at : ∀ c, c < 10 → vwCl[c]? = some (rCn c, rT c, rN c) := by
  intro c h
  match c, h with
  | 0, _ => rfl
  | 1, _ => rfl
  | 2, _ => rfl
  | 3, _ => rfl
  | 4, _ => rfl
  | 5, _ => rfl
  | 6, _ => rfl
  | 7, _ => rfl
  | 8, _ => rfl
  | 9, _ => rfl
theorem r_in : ∀ c, c < 10 → ∀ w ∈ u_ws (rCn c) (rT c) (rN c), w ∈ lw_tbl := by
  intro c h
  match c, h with
  | 0, _ => decide +kernel
  | 1, _ => decide +kernel
  | 2, _ => decide +kernel
  | 3, _ => decide +kernel
  | 4, _ => decide +kernel
  | 5, _ => decide +kernel
  | 6, _ => decide +kernel
  | 7, _ => decide +kernel
  | 8, _ => decide +kernel
  | 9, _ => decide +kernel
theorem r_ty : ∀ c, c < 10 → ∀ k, k < rN c → parseFieldDescriptor (rT c k).2.2.1 = some (rty c k) := by
  intro c h
  match c, h with
  | 0, _ => exact tyX0_ok
  | 1, _ => exact tyX1_ok
  | 2, _ => exact tyX2_ok
  | 3, _ => exact tyX3_ok
  | 4, _ => exact tyX4_ok
  | 5, _ => exact tyX5_ok
  | 6, _ => exact tyX6_ok
  | 7, _ => exact tyX7_ok
  | 8, _ => exact tyX8_ok
  | 9, _ => exact tyX9_ok
theorem r_nm : ∀ c, c < 10 → ∀ a, a < rN c → ∀ b, b < rN c → a ≠ b → (rT c a).2.1 ≠ (rT c b).2.1 := by
  intro c h
  match c, h with
  | 0, _ => exact nmX0
  | 1, _ => exact nmX1
  | 2, _ => exact nmX2
  | 3, _ => exact nmX3
  | 4, _ => exact nmX4
  | 5, _ => exact nmX5
  | 6, _ => exact nmX6
  | 7, _ => exact nmX7
  | 8, _ => exact nmX8
  | 9, _ => exact nmX9
def rTbl : List Cond := lw_tbl.filter goodWord
theorem rTbl_mem {w : Cond} (h : w ∈ lw_tbl) (hg : goodWord w = true) : w ∈ rTbl := List.mem_filter.mpr ⟨h, hg⟩
theorem rTbl_good {w : Cond} (h : w ∈ rTbl) : (w.onTables && w.keeps) = true ∨ ∃ ty, w = .arrayClass ty := good_of_word (List.mem_filter.mp h).2
theorem r_u_good (C : String) (T : u_T) (N : Nat) : ∀ w ∈ u_ws C T N, goodWord w = true := by
  intro w hw
  unfold u_ws at hw
  obtain ⟨k, -, h⟩ := List.mem_map.mp hw
  subst h
  unfold u_lay
  split <;> rfl
theorem r_inT (c : Nat) (h : c < 10) : ∀ w ∈ u_ws (rCn c) (rT c) (rN c), w ∈ rTbl := fun w hw => rTbl_mem (r_in c h w hw) (r_u_good _ _ _ w hw)
def rIsR (t : FieldType) : Bool := match t with
  | .object _ => true
  | .array _ => true
  | _ => false
/-- fields are numbers, truths or references -/
theorem r_pd : ∀ c, c < 10 → ∀ k, k < rN c → (rIsR (rty c k) || rty c k == .int || rty c k == .boolean) = true := by
  intro c h
  match c, h with
  | 0, _ => decide +kernel
  | 1, _ => decide +kernel
  | 2, _ => decide +kernel
  | 3, _ => decide +kernel
  | 4, _ => decide +kernel
  | 5, _ => decide +kernel
  | 6, _ => decide +kernel
  | 7, _ => decide +kernel
  | 8, _ => decide +kernel
  | 9, _ => decide +kernel
