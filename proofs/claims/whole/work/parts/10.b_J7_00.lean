set_option maxRecDepth 20000 in
theorem b_J7_fill_53178_0 {γ : rG} {l : Launch} {hf : rHeap} {r : Option Value} {sh : Nat × (Nat → Nat) × (Nat → Nat)} {I : Nat → Nat → Int32} {J : Nat → Nat → Int64} {R : Nat → Nat → Option Nat} {x0 : Nat} {n_x0 : Nat} {x1 : Int32}
    (h_x0 : rK sh x0 11)
    (g_x0 : sh.2.2 x0 = n_x0)
    (k1 : rV γ l m_J7_fill_53178 0 0 5 [some (.ref x0), some (.int x1), some (.int (0 : Int32)), some (.int (nI n_x0))] [] (sh, I, J, R) hf r) :
    rV γ l m_J7_fill_53178 0 0 0 [some (.ref x0), some (.int x1), none, none] [] (sh, I, J, R) hf r :=
  (r_iconst (v := (0 : Int32)) dJ7_fill_53178_0 (by decide) (r_istore_n (L' := [some (.ref x0), some (.int x1), some (.int (0 : Int32)), none]) dJ7_fill_53178_1 (by decide) rfl (r_aload_n dJ7_fill_53178_2 rfl (r_alen dJ7_fill_53178_3 h_x0 (by simp) (by rw [g_x0]; exact (r_istore_n (L' := [some (.ref x0), some (.int x1), some (.int (0 : Int32)), some (.int (nI n_x0))]) dJ7_fill_53178_4 (by decide) rfl k1))))))
set_option maxRecDepth 20000 in
theorem b_J7_fill_53178_5 {γ : rG} {l : Launch} {hf : rHeap} {r : Option Value} {sh : Nat × (Nat → Nat) × (Nat → Nat)} {I : Nat → Nat → Int32} {J : Nat → Nat → Int64} {R : Nat → Nat → Option Nat} {x0 : Nat} {n_x0 : Nat} {x1 : Int32} {x2 : Int32} {x3 : Int32}
    (h_x0 : rK sh x0 11)
    (g_x0 : sh.2.2 x0 = n_x0)
    (e2 : x3 ≤ x2 → hf = (sh, I, J, R) ∧ r = none)
    (b3 : ¬ x3 ≤ x2 → vp_in x2 n_x0)
    (k4 : ¬ x3 ≤ x2 → rV γ l m_J7_fill_53178 0 0 5 [some (.ref x0), some (.int x1), some (.int (x2 + (1 : Int32))), some (.int x3)] [] (sh, (up I x0 x2.toNatClampNeg x1), J, R) hf r) :
    rV γ l m_J7_fill_53178 0 0 5 [some (.ref x0), some (.int x1), some (.int x2), some (.int x3)] [] (sh, I, J, R) hf r :=
  (r_iload_n dJ7_fill_53178_5 rfl (r_iload_n dJ7_fill_53178_6 rfl (r_icmp_ge (tgt := 20) dJ7_fill_53178_7 (by decide) (fun c1 => (by obtain ⟨q1, q2⟩ := (e2 c1); subst q1; subst q2; exact r_return dJ7_fill_53178_20 rfl rfl rfl)) (fun c1 => (r_aload_n dJ7_fill_53178_10 rfl (r_iload_n dJ7_fill_53178_11 rfl (r_iload_n dJ7_fill_53178_12 rfl (r_iastore dJ7_fill_53178_13 h_x0 (by rw [g_x0]; exact (b3 c1)) (r_iinc (v := (x2 + (1 : Int32))) (L' := [some (.ref x0), some (.int x1), some (.int (x2 + (1 : Int32))), some (.int x3)]) dJ7_fill_53178_14 rfl rfl (by decide) rfl (r_goto (tgt := 5) dJ7_fill_53178_17 (by decide) (k4 c1)))))))))))
