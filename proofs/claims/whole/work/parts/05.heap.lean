/-! ===== cells: fields and rows ===== -/
section RH
variable {γ : rG} {l : Launch} {M : rM} {k n pc : Nat} {L : List (Option Value)} {st : List Value} {hf : rHeap} {r : Option Value} {sh : Nat × (Nat → Nat) × (Nat → Nat)} {I : Nat → Nat → Int32} {J : Nat → Nat → Int64} {R : Nat → Nat → Option Nat}
/-- the link of a field: class c, place q -/
def rF (own : String) (c q idx : Nat) : Prop := c < 10 ∧ q < rN c ∧ Cond.fieldLink own idx (rT c q).1 (rT c q).2.1 (rT c q).2.2.1 ∈ lw_tbl
theorem rce_obj (γ : rG) {a c : Nat} (hk : rK sh a c) (hc : c < 10) : rce γ (sh, I, J, R) a = .inr (c, rfs γ c (I a) (R a)) := by
  unfold rce rcl
  rw [hk.2, if_pos hc]
theorem rfs_at (γ : rG) {c q : Nat} {I : Nat → Int32} {R : Nat → Option Nat} (h : q < rN c) : (rfs γ c I R)[q]? = some (rfv γ c I R q) := by
  simp [rfs, h]
theorem rfs_set (γ : rG) {c q : Nat} {I I' : Nat → Int32} {R R' : Nat → Option Nat} {v : Value} (h : q < rN c) (hq : rfv γ c I' R' q = v) (ho : ∀ j, j ≠ q → rfv γ c I' R' j = rfv γ c I R j) : (rfs γ c I R).set q v = rfs γ c I' R' := by
  apply List.ext_getElem?
  intro j
  simp only [rfs, List.getElem?_set, List.getElem?_map]
  by_cases hj : q = j
  · subst hj
    simp [h, hq]
  · rw [if_neg hj]
    by_cases hl : j < rN c
    · simp [hl, ho j (Ne.symm hj)]
    · simp [hl]
theorem rce_arr (γ : rG) {a c : Nat} (hk : rK sh a c) (hc : c = 10 ∨ c = 11 ∨ c = 13) : rce γ (sh, I, J, R) a = .inl (gA γ c, sh.2.2 a, .inl (I a)) := by
  unfold rce rcl
  rw [hk.2]
  rcases hc with rfl | rfl | rfl <;> simp
theorem rce_arrL (γ : rG) {a : Nat} (hk : rK sh a 12) : rce γ (sh, I, J, R) a = .inl (gA γ 12, sh.2.2 a, .inr (.inl (J a))) := by
  unfold rce rcl
  rw [hk.2]
  simp
theorem rce_arrR (γ : rG) {a : Nat} (hk : rK sh a 14) : rce γ (sh, I, J, R) a = .inl (gA γ 14, sh.2.2 a, .inr (.inr (.inr (.inr (fun q => rad γ (R a q)))))) := by
  unfold rce rcl
  rw [hk.2]
  simp
theorem r_get {a c q idx : Nat} {v : Value} (d : decode (mB M) pc = .ok (.getfield idx, 3)) (f : rF (mOwn M) c q idx) (ha : rK sh a c) (hv : rfv γ c (I a) (R a) q = rtr γ v) (kk : rV γ l M k n (pc + 3) L (v :: st) (sh, I, J, R) hf r) : rV γ l M k n pc L (.ref a :: st) (sh, I, J, R) hf r := by
  intro p e s m args below meth c0 H locs ls hC hL hH hS
  refine va_get (D := gD γ) (cl := vwCl) (tys := gT γ) (ci := c) (C := rCn c) (T := rT c) (N := rN c) (ref := (rT c q).1) (v := rtr γ v) hC.1 hC.2.1 (hC.2.2.2.2.2.1) (r_inT c f.1) hC.2.2.2.2.1 hC.2.2.2.2.2.2.2.2.1 hH.2 a (fs := rfs γ c (I a) (R a)) ?_ (rCl_at c f.1) q f.2.1 (hC.2.2.2.2.2.1 _ (rTbl_mem f.2.2 rfl)) (fun _ h => h) ((rfs_at γ f.2.1).trans (congrArg some hv)) d (kk p e s m args below meth c0 H locs ls hC hL hH hS)
  rw [rws_at γ ha.1, rce_obj γ ha f.1]
theorem r_getI {a c q idx : Nat} (d : decode (mB M) pc = .ok (.getfield idx, 3)) (f : rF (mOwn M) c q idx) (ht : rIsR (rty c q) = false) (ha : rK sh a c) (kk : rV γ l M k n (pc + 3) L (.int (I a q) :: st) (sh, I, J, R) hf r) : rV γ l M k n pc L (.ref a :: st) (sh, I, J, R) hf r :=
  r_get d f ha (by simp [rfv, ht, rtr]) kk
theorem r_getR {a c q idx b : Nat} (d : decode (mB M) pc = .ok (.getfield idx, 3)) (f : rF (mOwn M) c q idx) (ht : rIsR (rty c q) = true) (ha : rK sh a c) (hb : R a q = some b) (kk : rV γ l M k n (pc + 3) L (.ref b :: st) (sh, I, J, R) hf r) : rV γ l M k n pc L (.ref a :: st) (sh, I, J, R) hf r :=
  r_get d f ha (by simp [rfv, ht, rtr, hb, rad, va_rf]) kk
/-- a cell's field changed, by the machine's row -/
theorem r_put {a c q idx : Nat} {v : Value} {I' : Nat → Nat → Int32} {R' : Nat → Nat → Option Nat} (d : decode (mB M) pc = .ok (.putfield idx, 3)) (f : rF (mOwn M) c q idx) (hfin : (rT c q).2.2.2 = false ∨ ((mY M).name = "<init>" ∧ (rT c q).1 = mOwn M)) (hn1 : narrow (rty c q) (rtr γ v) = rtr γ v) (hn2 : fits (rty c q) (rtr γ v) = true) (ha : rK sh a c)
    (hv : rfv γ c (I' a) (R' a) q = rtr γ v) (ho : ∀ j, j ≠ q → rfv γ c (I' a) (R' a) j = rfv γ c (I a) (R a) j) (hI : ∀ b, b ≠ a → I' b = I b) (hR : ∀ b, b ≠ a → R' b = R b)
    (kk : rV γ l M k n (pc + 3) L st (sh, I', J, R') hf r) : rV γ l M k n pc L (v :: .ref a :: st) (sh, I, J, R) hf r := by
  intro p e s m args below meth c0 H locs ls hC hL hH hS
  have hws : (rws γ (sh, I, J, R))[a]? = some (gB γ + a, .inr (c, rfs γ c (I a) (R a))) := by rw [rws_at γ ha.1, rce_obj γ ha f.1]
  have hset : (rws γ (sh, I, J, R)).set a (gB γ + a, .inr (c, (rfs γ c (I a) (R a)).set q (rtr γ v))) = rws γ (sh, I', J, R') :=
    rws_set γ rfl (fun _ => by rw [rce_obj γ ha f.1, rfs_set γ f.2.1 hv ho]) (fun b hb => by simp only [rce, hI b hb, hR b hb])
  have hD := rws_D γ (sh, I, J, R)
  have hl : q < (rfs γ c (I a) (R a)).length := by simp [rfs, f.2.1]
  have hsz : ∀ H1 : Heap, va_P (gD γ) vwCl (rws γ (sh, I', J, R')) H1 → H1.size = H.size → rH γ (sh, I', J, R') H1 := fun H1 hP hz => ⟨hz.trans hH.1, hP⟩
  have hK := hC.2.2.2.2.2.2.2.2.1
  have hts := hC.2.2.2.2.2.1
  have hap := va_apart (own := mOwn M) (D := gD γ) (cl := vwCl) (tys := gT γ) (ci := c) hts (r_inT c f.1) (rty c) (r_ty c f.1) (r_nm c f.1) hK (rCl_at c f.1)
  obtain ⟨r0, h1, cell, q1, q2, q3, q4⟩ := hH.2 a _ hws
  have hr : r0 = (rCn c, rT c, rN c) := Option.some.inj (h1.symm.trans (rCl_at c f.1))
  subst hr
  obtain ⟨hSl, hfc, kC, hkC, hkind⟩ := hK.1 c _ (rCl_at c f.1)
  obtain ⟨cf, kf, fi, f0, hi, hsl⟩ := hSl q f.2.1
  have hst := (u_facts hfc hkC (u_lays hts (r_inT c f.1) f.2.1) hi).1
  have hlay := hts _ (r_inT c f.1 _ (u_in_lay f.2.1))
  unfold u_lay at hlay
  have hlink := hts _ (rTbl_mem f.2.2 rfl)
  have hown := hC.2.2.2.2.1
  have fin : ∀ (H1 : Heap), H1[gB γ + a]? = some (cell.setSlot f0.slot (rtr γ v)) → H1.size = H.size → (∀ z, z ≠ gB γ + a → H1[z]? = H[z]?) → W p l e (rRm M) s m args below meth c0 H1 (locs ++ [⟨gB γ + a, f0.slot⟩]) k n (MQ below (rQ γ hf r) args s (mC M) (mS M) (gF γ)) (F0 m (pc + 3) ls (st.map (rtr γ))) := by
    intro H1 e1 e2 e3
    rw [hsl] at e1
    have hP1 := hH.2.set hD hws (e := .inr (c, (rfs γ c (I a) (R a)).set q (rtr γ v))) ⟨_, rCl_at c f.1, t_OB.to (V := updV (vp_V (rfs γ c (I a) (R a))) q (rtr γ v)) ⟨_, e1, q2, q3, t_set q4 hap f.2.1 (rtr γ v)⟩ (fun j _ => vp_updV_set hl (rtr γ v) j)⟩ e3
    rw [hset] at hP1
    exact kk p e s m args below meth c0 H1 _ ls hC hL (hsz H1 hP1 e2) (hS.put e2 e3 (hD.2 a _ hws))
  by_cases hff : (rT c q).2.2.2 = true
  · rcases hfin with hfin | ⟨hin, hdecl⟩
    · rw [hff] at hfin; cases hfin
    · rw [if_pos hff] at hlay
      have hcf : m.cls = cf := by
        obtain ⟨_, _, c', _, _, _, -, -, hf', -, -, -, hown2, -⟩ := Cond.laysFinal_spec hlay
        have e1 : c' = cf := by have := hi.symm.trans hf'; simp at this; exact this.1.symm
        rw [hdecl] at hown2
        rw [← e1]; exact Option.some.inj (hown.symm.trans hown2)
      have h6 := u_fits hfc hkC hkind (Or.inr hlay) hi (r_ty c f.1 q f.2.1) hn1 hn2
      exact W.putFinK hC.1 hC.2.1 hown hlink hi hst hcf (hC.2.2.2.2.2.2.2.1.trans hin) (by rw [q2]; exact h6) q1 q3 (by rw [hsl]; exact k2_hasslot (q4 q f.2.1)) rfl rfl d fin
  · have hff2 : (rT c q).2.2.2 = false := by simpa using hff
    rw [if_neg hff] at hlay
    have h6 := u_store hfc hkC hkind hlay hi (r_ty c f.1 q f.2.1) hn1 hn2
    exact W.putK hC.1 hC.2.1 (f := f0) ⟨hown, hlink, ⟨_, _, _, hi⟩, hst⟩ (by rw [q2]; exact h6) q1 q3 (by rw [hsl]; exact k2_hasslot (q4 q f.2.1)) rfl rfl d fin
theorem rfv_upI (γ : rG) {c q j : Nat} {f : Nat → Int32} {g : Nat → Option Nat} {x : Int32} (h : j ≠ q) : rfv γ c (va_up f q x) g j = rfv γ c f g j := by
  simp [rfv, va_up, h]
theorem rfv_upR (γ : rG) {c q j : Nat} {f : Nat → Int32} {g : Nat → Option Nat} {x : Option Nat} (h : j ≠ q) : rfv γ c f (va_up g q x) j = rfv γ c f g j := by
  simp [rfv, va_up, h]
theorem r_putI {a c q idx : Nat} {x : Int32} (d : decode (mB M) pc = .ok (.putfield idx, 3)) (f : rF (mOwn M) c q idx) (ht : rty c q = .int) (hfin : (rT c q).2.2.2 = false) (ha : rK sh a c) (kk : rV γ l M k n (pc + 3) L st (sh, up I a q x, J, R) hf r) : rV γ l M k n pc L (.int x :: .ref a :: st) (sh, I, J, R) hf r :=
  r_put d f (Or.inl hfin) (by rw [ht]; rfl) (by rw [ht]; rfl) ha (by rw [up_eq]; simp [rfv, ht, rIsR, rtr, va_up]) (fun j hj => by rw [up_eq, rfv_upI γ hj]) (fun b hb => up_ne hb) (fun b _ => rfl) kk
theorem r_putZ {a c q idx : Nat} {x : Int32} (d : decode (mB M) pc = .ok (.putfield idx, 3)) (f : rF (mOwn M) c q idx) (ht : rty c q = .boolean) (hx : x = 0 ∨ x = 1) (hfin : (rT c q).2.2.2 = false) (ha : rK sh a c) (kk : rV γ l M k n (pc + 3) L st (sh, up I a q x, J, R) hf r) : rV γ l M k n pc L (.int x :: .ref a :: st) (sh, I, J, R) hf r :=
  r_put d f (Or.inl hfin) (by rw [ht]; rcases hx with rfl | rfl <;> rfl) (by rw [ht]; rcases hx with rfl | rfl <;> rfl) ha (by rw [up_eq]; simp [rfv, ht, rIsR, rtr, va_up]) (fun j hj => by rw [up_eq, rfv_upI γ hj]) (fun b hb => up_ne hb) (fun b _ => rfl) kk
theorem r_putR {a c q idx b : Nat} (d : decode (mB M) pc = .ok (.putfield idx, 3)) (f : rF (mOwn M) c q idx) (ht : rIsR (rty c q) = true) (hfin : (rT c q).2.2.2 = false ∨ ((mY M).name = "<init>" ∧ (rT c q).1 = mOwn M)) (ha : rK sh a c) (kk : rV γ l M k n (pc + 3) L st (sh, I, J, up R a q (some b)) hf r) : rV γ l M k n pc L (.ref b :: .ref a :: st) (sh, I, J, R) hf r :=
  r_put d f hfin (by revert ht; cases rty c q <;> simp [rIsR] <;> rfl) (by revert ht; cases rty c q <;> simp [rIsR] <;> rfl) ha (by rw [up_eq]; simp [rfv, ht, rtr, va_up, rad, va_rf]) (fun j hj => by rw [up_eq, rfv_upR γ hj]) (fun b _ => rfl) (fun b hb => up_ne hb) kk
/-! rows of numbers -/
theorem r_iaload {a : Nat} {i : Int32} (d : decode (mB M) pc = .ok (.iaload, 1)) (ha : rK sh a 11) (hi : vp_in i (sh.2.2 a)) (kk : rV γ l M k n (pc + 1) L (.int (I a i.toNatClampNeg) :: st) (sh, I, J, R) hf r) : rV γ l M k n pc L (.int i :: .ref a :: st) (sh, I, J, R) hf r := by
  intro p e s m args below meth c0 H locs ls hC hL hH hS
  exact va_iald (D := gD γ) (cl := vwCl) (tys := gT γ) hC.1 hC.2.1 hC.2.2.2.2.2.2.2.2.1 hH.2 a 1 (cA := gA γ 11) (n := sh.2.2 a) (f := I a) (by rw [rws_at γ ha.1, rce_arr γ ha (by simp)]) rfl hi d (kk p e s m args below meth c0 H locs ls hC hL hH hS)
theorem r_baload {a : Nat} {i : Int32} (d : decode (mB M) pc = .ok (.baload, 1)) (ha : rK sh a 10) (hi : vp_in i (sh.2.2 a)) (kk : rV γ l M k n (pc + 1) L (.int (I a i.toNatClampNeg) :: st) (sh, I, J, R) hf r) : rV γ l M k n pc L (.int i :: .ref a :: st) (sh, I, J, R) hf r := by
  intro p e s m args below meth c0 H locs ls hC hL hH hS
  exact va_bald (D := gD γ) (cl := vwCl) (tys := gT γ) hC.1 hC.2.1 hC.2.2.2.2.2.2.2.2.1 hH.2 a 0 (cA := gA γ 10) (n := sh.2.2 a) (f := I a) (by rw [rws_at γ ha.1, rce_arr γ ha (by simp)]) rfl hi d (kk p e s m args below meth c0 H locs ls hC hL hH hS)
theorem r_zaload {a : Nat} {i : Int32} (d : decode (mB M) pc = .ok (.baload, 1)) (ha : rK sh a 13) (hi : vp_in i (sh.2.2 a)) (kk : rV γ l M k n (pc + 1) L (.int (I a i.toNatClampNeg) :: st) (sh, I, J, R) hf r) : rV γ l M k n pc L (.int i :: .ref a :: st) (sh, I, J, R) hf r := by
  intro p e s m args below meth c0 H locs ls hC hL hH hS
  exact va_zald (D := gD γ) (cl := vwCl) (tys := gT γ) hC.1 hC.2.1 hC.2.2.2.2.2.2.2.2.1 hH.2 a 3 (cA := gA γ 13) (n := sh.2.2 a) (f := I a) (by rw [rws_at γ ha.1, rce_arr γ ha (by simp)]) rfl hi d (kk p e s m args below meth c0 H locs ls hC hL hH hS)
theorem r_laload {a : Nat} {i : Int32} (d : decode (mB M) pc = .ok (.laload, 1)) (ha : rK sh a 12) (hi : vp_in i (sh.2.2 a)) (kk : rV γ l M k n (pc + 1) L (.long (J a i.toNatClampNeg) :: st) (sh, I, J, R) hf r) : rV γ l M k n pc L (.int i :: .ref a :: st) (sh, I, J, R) hf r := by
  intro p e s m args below meth c0 H locs ls hC hL hH hS
  exact va_lald (D := gD γ) (cl := vwCl) (tys := gT γ) hC.1 hC.2.1 hC.2.2.2.2.2.2.2.2.1 hH.2 a 2 (cA := gA γ 12) (n := sh.2.2 a) (f := J a) (by rw [rws_at γ ha.1, rce_arrL γ ha]) rfl hi d (kk p e s m args below meth c0 H locs ls hC hL hH hS)
theorem r_aaload {a b : Nat} {i : Int32} (d : decode (mB M) pc = .ok (.aaload, 1)) (ha : rK sh a 14) (hi : vp_in i (sh.2.2 a)) (hb : R a i.toNatClampNeg = some b) (kk : rV γ l M k n (pc + 1) L (.ref b :: st) (sh, I, J, R) hf r) : rV γ l M k n pc L (.int i :: .ref a :: st) (sh, I, J, R) hf r := by
  intro p e s m args below meth c0 H locs ls hC hL hH hS
  refine va_aldq (D := gD γ) (cl := vwCl) (tys := gT γ) hC.1 hC.2.1 hC.2.2.2.2.2.2.2.2.1 hH.2 a 4 (cA := gA γ 14) (n := sh.2.2 a) (f := fun q => rad γ (R a q)) (by rw [rws_at γ ha.1, rce_arrR γ ha]) rfl hi d ?_
  have e1 : va_rf (rad γ (R a i.toNatClampNeg)) = .ref (gB γ + b) := by rw [hb]; rfl
  show W p l e (rRm M) s m args below meth c0 H locs k n _ (F0 m (pc + 1) ls (va_rf (rad γ (R a i.toNatClampNeg)) :: st.map (rtr γ)))
  rw [e1]
  exact kk p e s m args below meth c0 H locs ls hC hL hH hS
theorem r_alen {a c : Nat} (d : decode (mB M) pc = .ok (.arraylength, 1)) (ha : rK sh a c) (hc : c = 10 ∨ c = 11 ∨ c = 13) (kk : rV γ l M k n (pc + 1) L (.int (nI (sh.2.2 a)) :: st) (sh, I, J, R) hf r) : rV γ l M k n pc L (.ref a :: st) (sh, I, J, R) hf r := by
  intro p e s m args below meth c0 H locs ls hC hL hH hS
  have hK := hC.2.2.2.2.2.2.2.2.1
  have hw : (rws γ (sh, I, J, R))[a]? = some (gB γ + a, .inl (gA γ c, sh.2.2 a, .inl (I a))) := by rw [rws_at γ ha.1, rce_arr γ ha hc]
  rcases hc with rfl | rfl | rfl
  · exact va_alen (D := gD γ) (cl := vwCl) (tys := gT γ) hC.1 hC.2.1 hK hH.2 a 0 hw (ty := .byte) rfl rfl d (kk p e s m args below meth c0 H locs ls hC hL hH hS)
  · exact va_alen (D := gD γ) (cl := vwCl) (tys := gT γ) hC.1 hC.2.1 hK hH.2 a 1 hw (ty := .int) rfl rfl d (kk p e s m args below meth c0 H locs ls hC hL hH hS)
  · exact va_alen (D := gD γ) (cl := vwCl) (tys := gT γ) hC.1 hC.2.1 hK hH.2 a 3 hw (ty := .boolean) rfl rfl d (kk p e s m args below meth c0 H locs ls hC hL hH hS)
theorem r_iastore {a : Nat} {i x : Int32} (d : decode (mB M) pc = .ok (.iastore, 1)) (ha : rK sh a 11) (hi : vp_in i (sh.2.2 a)) (kk : rV γ l M k n (pc + 1) L st (sh, up I a i.toNatClampNeg x, J, R) hf r) : rV γ l M k n pc L (.int x :: .int i :: .ref a :: st) (sh, I, J, R) hf r := by
  intro p e s m args below meth c0 H locs ls hC hL hH hS
  have hw : (rws γ (sh, I, J, R))[a]? = some (gB γ + a, .inl (gA γ 11, sh.2.2 a, .inl (I a))) := by rw [rws_at γ ha.1, rce_arr γ ha (by simp)]
  have hD := rws_D γ (sh, I, J, R)
  refine W.iast hC.1 hC.2.1 (hH.2 a _ hw) ((hC.2.2.2.2.2.2.2.2.1.2 1 _ rfl).1 _ (fun j => .int (I a j))) (fun q => by cases q) (by show ¬ (i < 0 ∨ (arrV _ _ _).slots.size ≤ _); rw [arrV_size]; exact hi) rfl rfl d fun H1 e1 z oq => ?_
  have hP1 := hH.2.set hD hw (e := .inl (gA γ 11, sh.2.2 a, .inl (va_up (I a) i.toNatClampNeg x))) (by
    show H1[gB γ + a]? = some (vp_cell _ _)
    rw [e1, vp_cell_i, vp_cell_i, arrV_store]
    congr 2
    funext q
    by_cases hq : q = i.toNatClampNeg <;> simp [updV, va_up, hq]) oq
  rw [rws_set γ (h := (sh, I, J, R)) (a := a) (h' := (sh, up I a i.toNatClampNeg x, J, R)) rfl (fun _ => by rw [rce_arr γ ha (by simp), up_eq]) (fun b hb => by simp only [rce, up_ne hb])] at hP1
  exact kk p e s m args below meth c0 H1 _ ls hC hL ⟨z.trans hH.1, hP1⟩ (hS.put z oq (hD.2 a _ hw))
theorem r_bastore {a : Nat} {i x : Int32} (d : decode (mB M) pc = .ok (.bastore, 1)) (ha : rK sh a 10) (hi : vp_in i (sh.2.2 a)) (kk : rV γ l M k n (pc + 1) L st (sh, up I a i.toNatClampNeg (vp_nar .byte x), J, R) hf r) : rV γ l M k n pc L (.int x :: .int i :: .ref a :: st) (sh, I, J, R) hf r := by
  intro p e s m args below meth c0 H locs ls hC hL hH hS
  have hw : (rws γ (sh, I, J, R))[a]? = some (gB γ + a, .inl (gA γ 10, sh.2.2 a, .inl (I a))) := by rw [rws_at γ ha.1, rce_arr γ ha (by simp)]
  have hD := rws_D γ (sh, I, J, R)
  refine W.bast hC.1 hC.2.1 (hH.2 a _ hw) ((hC.2.2.2.2.2.2.2.2.1.2 0 _ rfl).1 _ (fun j => .int (I a j))) (fun q => by cases q) (by show ¬ (i < 0 ∨ (arrV _ _ _).slots.size ≤ _); rw [arrV_size]; exact hi) rfl rfl d fun H1 e1 z oq => ?_
  have hP1 := hH.2.set hD hw (e := .inl (gA γ 10, sh.2.2 a, .inl (va_up (I a) i.toNatClampNeg (vp_nar .byte x)))) (by
    show H1[gB γ + a]? = some (vp_cell _ _)
    rw [e1, vp_cell_i, vp_cell_i, arrV_store]
    congr 2
    funext q
    by_cases hq : q = i.toNatClampNeg
    · subst hq
      simp [updV, va_up, vp_nar]
      try rfl
    · simp [updV, va_up, hq]) oq
  rw [rws_set γ (h := (sh, I, J, R)) (a := a) (h' := (sh, up I a i.toNatClampNeg (vp_nar .byte x), J, R)) rfl (fun _ => by rw [rce_arr γ ha (by simp), up_eq]) (fun b hb => by simp only [rce, up_ne hb])] at hP1
  exact kk p e s m args below meth c0 H1 _ ls hC hL ⟨z.trans hH.1, hP1⟩ (hS.put z oq (hD.2 a _ hw))
theorem r_zastore {a : Nat} {i x : Int32} (d : decode (mB M) pc = .ok (.bastore, 1)) (ha : rK sh a 13) (hi : vp_in i (sh.2.2 a)) (kk : rV γ l M k n (pc + 1) L st (sh, up I a i.toNatClampNeg (vp_nar .boolean x), J, R) hf r) : rV γ l M k n pc L (.int x :: .int i :: .ref a :: st) (sh, I, J, R) hf r := by
  intro p e s m args below meth c0 H locs ls hC hL hH hS
  have hw : (rws γ (sh, I, J, R))[a]? = some (gB γ + a, .inl (gA γ 13, sh.2.2 a, .inl (I a))) := by rw [rws_at γ ha.1, rce_arr γ ha (by simp)]
  have hD := rws_D γ (sh, I, J, R)
  refine W.zast hC.1 hC.2.1 (hH.2 a _ hw) ((hC.2.2.2.2.2.2.2.2.1.2 3 _ rfl).1 _ (fun j => .int (I a j))) (fun q => by cases q) (by show ¬ (i < 0 ∨ (arrV _ _ _).slots.size ≤ _); rw [arrV_size]; exact hi) rfl rfl d fun H1 e1 z oq => ?_
  have hP1 := hH.2.set hD hw (e := .inl (gA γ 13, sh.2.2 a, .inl (va_up (I a) i.toNatClampNeg (vp_nar .boolean x)))) (by
    show H1[gB γ + a]? = some (vp_cell _ _)
    rw [e1, vp_cell_i, vp_cell_i, arrV_store]
    congr 2
    funext q
    by_cases hq : q = i.toNatClampNeg
    · subst hq
      simp [updV, va_up, vp_nar]
      try rfl
    · simp [updV, va_up, hq]) oq
  rw [rws_set γ (h := (sh, I, J, R)) (a := a) (h' := (sh, up I a i.toNatClampNeg (vp_nar .boolean x), J, R)) rfl (fun _ => by rw [rce_arr γ ha (by simp), up_eq]) (fun b hb => by simp only [rce, up_ne hb])] at hP1
  exact kk p e s m args below meth c0 H1 _ ls hC hL ⟨z.trans hH.1, hP1⟩ (hS.put z oq (hD.2 a _ hw))
theorem r_lastore {a : Nat} {i : Int32} {x : Int64} (d : decode (mB M) pc = .ok (.lastore, 1)) (ha : rK sh a 12) (hi : vp_in i (sh.2.2 a)) (kk : rV γ l M k n (pc + 1) L st (sh, I, up J a i.toNatClampNeg x, R) hf r) : rV γ l M k n pc L (.long x :: .int i :: .ref a :: st) (sh, I, J, R) hf r := by
  intro p e s m args below meth c0 H locs ls hC hL hH hS
  have hw : (rws γ (sh, I, J, R))[a]? = some (gB γ + a, .inl (gA γ 12, sh.2.2 a, .inr (.inl (J a)))) := by rw [rws_at γ ha.1, rce_arrL γ ha]
  have hD := rws_D γ (sh, I, J, R)
  refine W.last hC.1 hC.2.1 (hH.2 a _ hw) ((hC.2.2.2.2.2.2.2.2.1.2 2 _ rfl).1 _ (fun j => .long (J a j))) (fun q => by cases q) (by show ¬ (i < 0 ∨ (arrV _ _ _).slots.size ≤ _); rw [arrV_size]; exact hi) rfl rfl d fun H1 e1 z oq => ?_
  have hP1 := hH.2.set hD hw (e := .inl (gA γ 12, sh.2.2 a, .inr (.inl (va_up (J a) i.toNatClampNeg x)))) (by
    show H1[gB γ + a]? = some (vp_cell _ _)
    rw [e1, vp_cell_l, vp_cell_l, arrV_store]
    congr 2
    funext q
    by_cases hq : q = i.toNatClampNeg <;> simp [updV, va_up, hq]) oq
  rw [rws_set γ (h := (sh, I, J, R)) (a := a) (h' := (sh, I, up J a i.toNatClampNeg x, R)) rfl (fun _ => by rw [rce_arrL γ ha, up_eq]) (fun b hb => by simp only [rce, up_ne hb])] at hP1
  exact kk p e s m args below meth c0 H1 _ ls hC hL ⟨z.trans hH.1, hP1⟩ (hS.put z oq (hD.2 a _ hw))
theorem r_aastore {a b : Nat} {i : Int32} (d : decode (mB M) pc = .ok (.aastore, 1)) (ha : rK sh a 14) (hb : rK sh b 2) (hi : vp_in i (sh.2.2 a)) (kk : rV γ l M k n (pc + 1) L st (sh, I, J, up R a i.toNatClampNeg (some b)) hf r) : rV γ l M k n pc L (.ref b :: .int i :: .ref a :: st) (sh, I, J, R) hf r := by
  intro p e s m args below meth c0 H locs ls hC hL hH hS
  have hw : (rws γ (sh, I, J, R))[a]? = some (gB γ + a, .inl (gA γ 14, sh.2.2 a, .inr (.inr (.inr (.inr (fun q => rad γ (R a q))))))) := by rw [rws_at γ ha.1, rce_arrR γ ha]
  have hwb : (rws γ (sh, I, J, R))[b]? = some (gB γ + b, .inr (2, rfs γ 2 (I b) (R b))) := by rw [rws_at γ hb.1, rce_obj γ hb (by decide)]
  have hD := rws_D γ (sh, I, J, R)
  have hK := hC.2.2.2.2.2.2.2.2.1
  have hlt : i.toNatClampNeg < sh.2.2 a := Nat.not_le.mp fun q => hi (Or.inr q)
  have h0 : ¬ i < 0 := fun q => hi (Or.inl q)
  obtain ⟨r', hr', cellV, g1, g2, g3, -⟩ := hH.2 b _ hwb
  have hcls := (hK.1 2 _ (rCl_at 2 (by decide))).2
  obtain ⟨kA, comp, k1, k2, k3, -⟩ := (hK.2 4 _ rfl).2
  have hcomp : comp = (gD γ).1 2 := Option.some.inj (k3.symm.trans hcls.1)
  subst hcomp
  obtain ⟨kC, hkC, -⟩ := id hcls.2
  refine W.aast hC.1 hC.2.1 (hH.2 a _ hw) (fun q h => by cases h) (fun h => by cases h) k1 k2 rfl hkC ⟨h0, by show _ < (arrV _ _ _).slots.size; rw [arrV_size]; exact hlt⟩ g1 (fun q h => by rw [g3] at h; cases h) (by rw [g2]; exact hkC) (by rw [g2]; exact va_assign hcls) rfl rfl d fun H1 e1 z oq => ?_
  have hP1 := hH.2.set hD hw (e := .inl (gA γ 14, sh.2.2 a, .inr (.inr (.inr (.inr (fun q => rad γ (va_up (R a) i.toNatClampNeg (some b) q))))))) (by
    show H1[gB γ + a]? = some (vp_cell _ _)
    rw [e1, vp_cell_q, vp_cell_q, arrV_store]
    congr 2
    funext q
    by_cases hq : q = i.toNatClampNeg <;> simp [updV, va_up, hq, rad, va_rf]) oq
  rw [rws_set γ (h := (sh, I, J, R)) (a := a) (h' := (sh, I, J, up R a i.toNatClampNeg (some b))) rfl (fun _ => by rw [rce_arrR γ ha, up_eq]) (fun b hb => by simp only [rce, up_ne hb])] at hP1
  exact kk p e s m args below meth c0 H1 _ ls hC hL ⟨z.trans hH.1, hP1⟩ (hS.put z oq (hD.2 a _ hw))
end RH
