set_option maxRecDepth 20000 in
theorem b_J9_max_7cf53_0 {γ : rG} {l : Launch} {hf : rHeap} {r : Option Value} {sh : Nat × (Nat → Nat) × (Nat → Nat)} {I : Nat → Nat → Int32} {J : Nat → Nat → Int64} {R : Nat → Nat → Option Nat} {x0 : Int32} {x1 : Int32}
    (e2 : x0 < x1 → hf = (sh, I, J, R) ∧ r = some (.int x1))
    (e3 : ¬ x0 < x1 → hf = (sh, I, J, R) ∧ r = some (.int x0)) :
    rV γ l m_J9_max_7cf53 0 0 0 [some (.int x0), some (.int x1)] [] (sh, I, J, R) hf r :=
  (r_iload_n dJ9_max_7cf53_0 rfl (r_iload_n dJ9_max_7cf53_1 rfl (r_icmp_lt (tgt := 9) dJ9_max_7cf53_2 (by decide) (fun c1 => (r_iload_n dJ9_max_7cf53_9 rfl (by obtain ⟨q1, q2⟩ := (e2 c1); subst q1; subst q2; exact r_ireturn dJ9_max_7cf53_10 rfl rfl rfl))) (fun c1 => (r_iload_n dJ9_max_7cf53_5 rfl (r_goto (tgt := 10) dJ9_max_7cf53_6 (by decide) (by obtain ⟨q1, q2⟩ := (e3 c1); subst q1; subst q2; exact r_ireturn dJ9_max_7cf53_10 rfl rfl rfl)))))))
set_option maxRecDepth 20000 in
theorem b_J9_min_7cf53_0 {γ : rG} {l : Launch} {hf : rHeap} {r : Option Value} {sh : Nat × (Nat → Nat) × (Nat → Nat)} {I : Nat → Nat → Int32} {J : Nat → Nat → Int64} {R : Nat → Nat → Option Nat} {x0 : Int32} {x1 : Int32}
    (e2 : x1 < x0 → hf = (sh, I, J, R) ∧ r = some (.int x1))
    (e3 : ¬ x1 < x0 → hf = (sh, I, J, R) ∧ r = some (.int x0)) :
    rV γ l m_J9_min_7cf53 0 0 0 [some (.int x0), some (.int x1)] [] (sh, I, J, R) hf r :=
  (r_iload_n dJ9_min_7cf53_0 rfl (r_iload_n dJ9_min_7cf53_1 rfl (r_icmp_gt (tgt := 9) dJ9_min_7cf53_2 (by decide) (fun c1 => (r_iload_n dJ9_min_7cf53_9 rfl (by obtain ⟨q1, q2⟩ := (e2 c1); subst q1; subst q2; exact r_ireturn dJ9_min_7cf53_10 rfl rfl rfl))) (fun c1 => (r_iload_n dJ9_min_7cf53_5 rfl (r_goto (tgt := 10) dJ9_min_7cf53_6 (by decide) (by obtain ⟨q1, q2⟩ := (e3 c1); subst q1; subst q2; exact r_ireturn dJ9_min_7cf53_10 rfl rfl rfl)))))))
