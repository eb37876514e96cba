/-! ===== the packet: begin, lay, layFlat ===== -/
def nz (b : Bool) : Int32 := if b then 1 else 0
theorem nar_nz (b : Bool) : vp_nar .boolean (nz b) = nz b := by cases b <;> decide
/-- begin(count, width): two fields, all heights 0 -/
def pkBegin (I : Nat → Nat → Int32) (a : Nat) (p c : Int32) : Nat → Nat → Int32 := fillN (up (up I a 0 p) a 1 c) (a + 4) 0 8
/-- lay(p, c, l, up) -/
def pkLay (I : Nat → Nat → Int32) (a p c q : Nat) (u : Bool) : Nat → Nat → Int32 := up (up (up (up (up I (a + 1) p (nI c)) (a + 2) p (nI q)) (a + 3) p (nz u)) (a + 4) c (I (a + 4) c + 1)) (a + 5) (8 * c + q) (nI p)
def pkFlat (I : Nat → Nat → Int32) (a : Nat) : Nat → Nat → Nat → Int32
  | 0 => I
  | p + 1 => pkLay (pkFlat I a p) a p p 0 true
section PK
variable {γ : rG} {l : Launch} {sh : Nat × (Nat → Nat) × (Nat → Nat)} {I : Nat → Nat → Int32} {J : Nat → Nat → Int64} {R : Nat → Nat → Option Nat} {a : Nat}
theorem ct_begin {p c : Int32} (hA : At2 sh R a) : rMet γ l m_X2_begin [.ref a, .int p, .int c] (sh, I, J, R) (sh, pkBegin I a p c, J, R) none :=
  e_X2_begin (b_X2_begin_0 hA (ct_fill (At2_5 hA).2.1 (At2_5 hA).2.2 (by decide)) ⟨rfl, rfl⟩)
theorem ct_lay {p c q : Nat} {u : Bool} (hA : At2 sh R a) (hp : p < 8) (hc : c < 8) (hq : q < 8) : rMet γ l m_X2_lay [.ref a, .int (nI p), .int (nI c), .int (nI q), .int (nz u)] (sh, I, J, R) (sh, pkLay I a p c q u, J, R) none := by
  have e1 : (nI p).toNatClampNeg = p := nI_clamp (by omega)
  have e2 : (nI c).toNatClampNeg = c := nI_clamp (by omega)
  have e3 : ((8 : Int32) * nI c) + nI q = nI (8 * c + q) := by rw [show (8 : Int32) = nI 8 by decide, pk_mul, nI_add]
  have e4 : (nI (8 * c + q)).toNatClampNeg = 8 * c + q := nI_clamp (by omega)
  have g1 : ¬ nI c < 0 := nI_pos (by omega)
  have g2 : ¬ (8 : Int32) ≤ nI c := by rw [show (8 : Int32) = nI 8 by decide]; exact nI_ge hc (by decide)
  have g3 : ¬ nI q < 0 := nI_pos (by omega)
  have g4 : nI q < (8 : Int32) := by rw [show (8 : Int32) = nI 8 by decide]; exact nI_lt hq (by decide)
  refine e_X2_lay (b_X2_lay_0 hA (fun z => absurd z g1) (fun _ z => absurd z g2) (fun _ _ z => absurd z g3) (fun _ _ _ _ => vp_in_nI hp (by decide)) (fun _ _ _ _ => vp_in_nI hp (by decide)) (fun _ _ _ _ => vp_in_nI hp (by decide)) (fun _ _ _ _ => vp_in_nI hc (by decide)) (fun _ _ _ _ => vp_in_nI hc (by decide)) (fun _ _ _ _ => by rw [e3]; exact vp_in_nI (by omega) (by decide)) (fun _ _ _ _ => ⟨?_, rfl⟩) (fun _ _ _ z => absurd g4 z))
  rw [e1, e2, e3, e4, nar_nz]
  have e5 : up (up (up I (a + 1) p (nI c)) (a + 2) p (nI q)) (a + 3) p (nz u) (a + 4) c = I (a + 4) c := by simp [up_at]
  rw [e5]
  rfl
theorem pkFlat_parts {n : Int32} : ∀ p, pkFlat (pkBegin I a n n) a p a 0 = n := by
  intro p
  induction p with
  | zero => simp [pkFlat, pkBegin, fillN, up_at]
  | succ p ih => simp [pkFlat, pkLay, up_at, ih]
theorem flat_loop {n : Nat} (hA : At2 sh R a) (hn : n ≤ 8) : ∀ j p, p + j = n → rV γ l m_X2_layFlat 0 0 8 [some (.ref a), none, some (.int (nI p))] [] (sh, pkFlat (pkBegin I a (nI n) (nI n)) a p, J, R) (sh, pkFlat (pkBegin I a (nI n) (nI n)) a n, J, R) none := by
  intro j
  induction j with
  | zero =>
    intro p hp
    have e : p = n := by omega
    subst e
    have hg : pkFlat (pkBegin I a (nI p) (nI p)) a p a 0 ≤ nI p := by rw [pkFlat_parts]; exact nI_le (Nat.le_refl _) (by omega)
    exact b_X2_layFlat_8 (I3 := I) hA (fun _ => ⟨rfl, rfl⟩) (fun q => absurd hg q) (fun q => absurd hg q)
  | succ j ih =>
    intro p hp
    have hg : ¬ pkFlat (pkBegin I a (nI n) (nI n)) a p a 0 ≤ nI p := by rw [pkFlat_parts]; exact nI_ge (by omega) (by omega)
    refine b_X2_layFlat_8 hA (fun q => absurd q hg) (fun _ => ct_lay (u := true) (q := 0) hA (by omega) (by omega) (by omega)) (fun _ => ?_)
    rw [nI_1]
    exact ih (p + 1) (by omega)
theorem ct_layFlat {n : Nat} (hA : At2 sh R a) (hn : n ≤ 8) : rMet γ l m_X2_layFlat [.ref a, .int (nI n)] (sh, I, J, R) (sh, pkFlat (pkBegin I a (nI n) (nI n)) a n, J, R) none :=
  e_X2_layFlat (b_X2_layFlat_0 hA (ct_begin hA) (flat_loop hA hn n 0 (by omega)))
/-- Sheet.layFlat(n): what a new sheet is -/
def shFlat (I : Nat → Nat → Int32) (a n : Nat) : Nat → Nat → Int32 := pkFlat (pkBegin (fillN (fillN (up (up (up (up I a 0 (nI n)) a 1 0) a 2 0) a 3 0) (a + 1) 0 8) (a + 2) 0 8) (a + 9) (nI n) (nI n)) (a + 9) n
theorem ct_shFlat {n : Nat} (hA : At5 sh R a) (hn : n ≤ 8) : rMet γ l m_X5_layFlat [.ref a, .int (nI n)] (sh, I, J, R) (sh, shFlat I a n, J, R) none := by
  have hp := At5_p hA 0 (by decide)
  exact e_X5_layFlat (b_X5_layFlat_0 (b6 := a + 9) hA (ct_fill (At5_4 hA).2.1 (At5_4 hA).2.2 (by decide)) (ct_fill (At5_5 hA).2.1 (At5_5 hA).2.2 (by decide)) (vp_in_nI (n := 0) (by decide) (by decide)) hp.1 hp.2 (ct_layFlat hp.2 hn) ⟨rfl, rfl⟩)
def fdForget (I : Nat → Nat → Int32) (a : Nat) (n : Int32) : Nat → Nat → Int32 := up (up (up (up (up (up (up (up I a 0 n) a 1 0) a 2 0) a 3 0) a 4 0) a 5 0) a 6 0) a 7 0
theorem ct_forget {n : Int32} (hA : At0 sh R a) : rMet γ l m_X0_forget [.ref a, .int n] (sh, I, J, R) (sh, fdForget I a n, J, R) none :=
  e_X0_forget (b_X0_forget_0 hA ⟨rfl, rfl⟩)
end PK
